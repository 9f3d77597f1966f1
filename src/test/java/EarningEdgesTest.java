import java.util.Arrays;

/** The edges of guests, of what doors earn, of even and of rounds, sentence by sentence. */
public final class EarningEdgesTest {
    private static final int NONE = RoadOfDoors.NONE;
    private static final int OTHERS = -2;
    private static final String[] TOLLS = {"opens gift>=1;", "opens gift>=2;", "opens gift>=3;", "opens gift>=5;"};

    private final Edges t = new Edges();

    public static void main(String[] args) {
        EarningEdgesTest all = new EarningEdgesTest();
        all.guestsAtMost();
        all.guestsOfOthers();
        all.guestsOfTheirOwn();
        all.noGuests();
        all.withinADay();
        all.theCheapest();
        all.ifThereIsOne();
        all.earnedByAll();
        all.earnsOfOthers();
        all.evenWithoutMore();
        all.evenByATextOrNone();
        all.evenAlone();
        all.evenOfTheLowest();
        all.noRound();
        all.ownAheadOfLike();
        all.lowestOfLike();
        all.doorByDoor();
        all.roundsCounted();
        all.roundsAtMost();
        all.roundsOfOthers();
        all.nothingIsChanged();
        all.t.end();
    }

    private static int guest(RoadOfDoors x, int[] of) {
        return x.guest(of[0], of[1], of[2], of[3]);
    }

    private void earned(RoadOfDoors x, String name, int... want) {
        for (int door = 0; door < want.length; door++) {
            t.due(name + ": door " + door + " earns", x.earns(door), want[door]);
        }
    }

    // ---- guests

    private void guestsAtMost() {
        t.says("GUESTS (6 at most; told)");
        RoadOfDoors x = Edges.kept(1, "opens gift=load;");
        t.due("none at first", x.about(3), 0);
        int sum = 0;
        for (int i = 1; i <= 6; i++) {
            t.due("guest " + i, x.guest(i - 1, 0, 0, 9), i);
            sum += i - 1;
            t.due("about(3)", x.about(3), i);
            t.due("earned by " + i, x.earns(0), sum);
        }
        t.due("a seventh", x.guest(5, 0, 0, 9), NONE);
        t.due("another", x.guest(1, 0, 0, 9), NONE);
        t.due("about(3)", x.about(3), 6);
        t.due("earned by 6 yet", x.earns(0), 15);
    }

    private void guestsOfOthers() {
        t.says("A GUEST more: how many there are. NONE for others, or if there are 6.");
        RoadOfDoors x = Edges.kept(2, "opens gift=1;");
        int[] high = {9, 3, 23, 99};
        x.guest(0, 0, 0, 2);
        int[] before = Edges.all(x);
        for (int i = 0; i < 4; i++) {
            for (int wrong : Edges.outside(0, high[i])) {
                int[] of = {0, 0, 0, 2};
                of[i] = wrong;
                t.due("guest, " + wrong + " at " + i, guest(x, of), NONE);
            }
        }
        t.stays("guests of others", x, before);
        earned(x, "the first alone", 1, 1);
        t.due("the most", guest(x, high), 2);
        t.due("the least", x.guest(0, 0, 0, 0), 3);
        for (int i = 0; i < 4; i++) {
            int[] of = {0, 0, 0, 2};
            of[i] = high[i];
            t.due("the most at " + i, guest(x, of), i < 3 ? 4 + i : NONE);
        }
        for (int doors = 1; doors <= 8; doors++) {
            RoadOfDoors y = new RoadOfDoors(doors);
            t.due("all keys of " + doors, y.guest(0, (1 << doors) - 1, 0, 0), 1);
            t.due("a key of none", y.guest(0, 1 << doors, 0, 0), NONE);
        }
    }

    private void guestsOfTheirOwn() {
        t.says("each with LOAD, KEYS, HOUR, PURSE");
        RoadOfDoors x = Edges.kept(2, "opens gift=load-4;", "opens gift=1 and hour<12 or gift=2 and hour>=12;");
        x.sets(9, 3, 13, 0);
        x.guest(4, 0, 0, 9);
        earned(x, "load 4", 0, 1);
        x.guest(9, 0, 0, 9);
        earned(x, "load 9", 5, 2);
        x.guest(7, 1, 0, 9);
        earned(x, "the first key", 5, 3);
        x.guest(7, 2, 0, 9);
        earned(x, "the second key", 8, 3);
        x.guest(4, 0, 12, 1);
        earned(x, "too poor by noon, so he waits", 8, 4);
        x.guest(7, 0, 0, 3);
        earned(x, "too poor at all", 8, 4);
    }

    private void noGuests() {
        t.says("No GUESTS: how many there were.");
        RoadOfDoors x = Edges.kept(1, "opens gift=1;");
        t.due("none", x.clear(), 0);
        for (int many = 1; many <= 6; many++) {
            for (int i = 0; i < many; i++) {
                x.guest(0, 0, 0, 9);
            }
            t.due("earned by " + many, x.earns(0), many);
            t.due("clear", x.clear(), many);
            t.due("about(3)", x.about(3), 0);
            t.due("earned by none", x.earns(0), 0);
            t.due("none are left", x.clear(), 0);
        }
        for (int i = 1; i <= 6; i++) {
            t.due("room for 6 again", x.guest(0, 0, 0, 9), i);
        }
        t.due("a seventh", x.guest(0, 0, 0, 9), NONE);
        t.due("the rule stays", x.about(10), 0);
    }

    private void withinADay() {
        t.says("each goes the CHEAPEST WAY within 24 HOURS, if there is one.");
        for (int hour = 0; hour < 24; hour++) {
            RoadOfDoors x = Edges.told(2, "opens hour=" + (hour + 22) % 24 + " and gift=1;",
                    "opens hour=" + (hour + 23) % 24 + " and gift=2;", "opens hour=" + hour + " and gift=3;");
            Edges.rules(x, 0, 1);
            x.guest(0, 0, hour, 9);
            earned(x, "the 24th hour, from " + hour, 1, 2);
            Edges.rules(x, 0, 2);
            earned(x, "the 25th hour, from " + hour, 0, 0);
            Edges.rules(x, 1, 0);
            earned(x, "the 47th hour, from " + hour, 0, 0);
            Edges.rules(x, 2, 1);
            earned(x, "the first and the 24th, from " + hour, 3, 2);
        }
        RoadOfDoors x = Edges.kept(4, "opens waited=5 or gift=4;");
        x.guest(0, 0, 0, 99);
        earned(x, "four doors of 6 hours", 0, 0, 0, 0);
        RoadOfDoors y = Edges.kept(5, "opens waited=5 or gift=4;");
        y.guest(0, 0, 0, 99);
        earned(y, "five doors: the last two are paid", 0, 0, 0, 4, 4);
        RoadOfDoors z = Edges.kept(2, "opens hour=0 and gift=1;", "opens gift=3 or hour=0 and gift=2;");
        z.guest(0, 0, 0, 99);
        earned(z, "the 25th hour would be cheaper", 1, 3);
    }

    private void theCheapest() {
        t.says("each goes the CHEAPEST WAY");
        RoadOfDoors x = Edges.kept(1, "opens gift=5 or hour=23 and gift=1;");
        x.guest(0, 0, 0, 99);
        earned(x, "not the soonest", 1);
        x.guest(0, 0, 23, 99);
        earned(x, "from the last hour", 2);
        RoadOfDoors y = Edges.kept(2, "opens gift=2;", "opens gift=1 and knocks>4 or gift=3 and waited<2;");
        y.guest(0, 0, 0, 99);
        earned(y, "more knocks, less gifts", 2, 1);
        RoadOfDoors z = Edges.kept(2, "opens hour=0 and gift=2 or hour=1 and gift=1;",
                "opens hour=1 and gift=1 or hour>1 and gift=2;");
        z.guest(0, 0, 0, 99);
        earned(z, "of like gifts the fewest hours", 2, 1);
        RoadOfDoors w = Edges.kept(2, "opens hour=0 and gift=2 or hour=1 and gift=1;", "opens hour=2 and gift=1;");
        w.guest(0, 0, 0, 99);
        earned(w, "the least together", 1, 1);
        RoadOfDoors v = Edges.kept(2, "opens hour=0 and gift=2 or hour=1 and gift=1;",
                "opens hour=2 and waited=1 and gift=1 or hour=2 and gift=2;");
        v.guest(0, 0, 0, 99);
        earned(v, "of like ones waiting first", 1, 2);
    }

    private void ifThereIsOne() {
        t.says("if there is one.");
        RoadOfDoors x = Edges.told(3, "opens gift=2;", "opens gift=3;", "opens 1=2;");
        Edges.rules(x, 0, 1, 0);
        x.guest(0, 0, 0, 6);
        earned(x, "one short: nothing at any door", 0, 0, 0);
        x.guest(0, 0, 0, 7);
        earned(x, "just enough", 2, 3, 2);
        x.guest(0, 2, 0, 4);
        earned(x, "just enough with a key", 4, 3, 4);
        Edges.rules(x, 0, 1, 2);
        earned(x, "the last stays shut", 0, 0, 0);
        Edges.rules(x, 0, 1, NONE);
        earned(x, "the last has no rule", 0, 0, 0);
        x.hinge(2, false);
        earned(x, "the last is not hinged: now the first can, too", 6, 6, 0);
        x.guest(0, 0, 0, 4);
        earned(x, "one who can't pay", 6, 6, 0);
    }

    private void earnedByAll() {
        t.says("A DOOR EARNS the GIFTS given at it by all GUESTS.");
        RoadOfDoors x = Edges.kept(8, "opens gift=5;");
        for (int i = 0; i < 6; i++) {
            x.guest(i, 0, i, 40);
        }
        earned(x, "the most", 30, 30, 30, 30, 30, 30, 30, 30);
        x.hinge(7, false);
        earned(x, "one not hinged", 30, 30, 30, 30, 30, 30, 30, 0);
        x.hinge(7, true);
        x.clear();
        for (int door = 0; door < 6; door++) {
            x.guest(0, 1 << door, 0, 39);
        }
        earned(x, "each has a key", 25, 25, 25, 25, 25, 25, 30, 30);
        RoadOfDoors y = Edges.kept(2, "opens gift=0;");
        y.guest(0, 0, 0, 99);
        earned(y, "for nothing", 0, 0);
        RoadOfDoors z = new RoadOfDoors(2);
        z.guest(0, 3, 0, 99);
        earned(z, "by keys", 0, 0);
    }

    private void earnsOfOthers() {
        t.says("What a DOOR EARNS. NONE for others.");
        for (int doors = 1; doors <= 8; doors++) {
            RoadOfDoors x = Edges.kept(doors, "opens gift=1;");
            t.due("without guests", x.earns(doors - 1), 0);
            x.guest(0, 0, 0, 8);
            t.due("the first", x.earns(0), 1);
            t.due("the last", x.earns(doors - 1), 1);
            for (int wrong : Edges.outside(0, doors - 1)) {
                t.due("earns(" + wrong + ") of " + doors, x.earns(wrong), NONE);
            }
        }
    }

    // ---- even

    private void evenWithoutMore() {
        t.says("EVEN: no DOOR would EARN more by another RULE (a TEXT told, or none) alone.");
        RoadOfDoors x = new RoadOfDoors(2);
        t.due("no texts, no guests", x.even(), NONE);
        x.guest(0, 0, 0, 99);
        t.due("no texts", x.even(), NONE);
        RoadOfDoors y = Edges.kept(2, TOLLS);
        t.due("no guests", y.even(), NONE);
        RoadOfDoors z = Edges.told(2, "opens gift=2;", "opens gift=2 and knocks=7;", "opens gift=3;", "opens gift=1;");
        Edges.rules(z, 0, 1);
        z.guest(0, 0, 0, 4);
        t.due("like is not more, and more is too dear", z.even(), NONE);
        z.clear();
        z.guest(0, 0, 0, 5);
        t.due("one more would be paid", z.even(), 0);
        Edges.rules(z, 2, 1);
        t.due("by one: all is spent", z.even(), NONE);
        z.clear();
        z.guest(0, 0, 0, 6);
        t.due("one more again", z.even(), 1);
        z.clear();
        z.guest(0, 3, 0, 99);
        t.due("by keys none gives", z.even(), NONE);
        z.clear();
        z.guest(0, 0, 0, 99);
        z.hinge(1, false);
        t.due("where it is not hinged none gives", z.even(), NONE);
    }

    private void evenByATextOrNone() {
        t.says("by another RULE (a TEXT told, or none)");
        RoadOfDoors x = Edges.told(1);
        x.guest(0, 0, 0, 99);
        for (int text = 0; text < 4; text++) {
            t.due("of texts " + text, x.even(), NONE);
            Checks.tell(x, TOLLS[text]);
            t.due("the text just told", x.even(), 0);
            x.keep(0, text);
            t.due("kept", x.even(), NONE);
            if (text > 0) {
                x.keep(0, text - 1);
                t.due("the last is better", x.even(), 0);
                x.keep(0, 0);
                t.due("from the first", x.even(), 0);
                x.keep(0, text);
            }
        }
        x.keep(0, NONE);
        t.due("from none", x.even(), 0);
        RoadOfDoors y = Edges.told(1, "wait 1;", "opens 1=2;", "opens gift=0;");
        y.guest(0, 0, 0, 99);
        for (int rule = NONE; rule < 3; rule++) {
            y.keep(0, rule);
            t.due("nothing to be earned, nor less, by " + rule, y.even(), NONE);
        }
    }

    private void evenAlone() {
        t.says("by another RULE (a TEXT told, or none) alone.");
        RoadOfDoors x = Edges.told(2, "opens gift=1;", "opens gift=5;");
        x.guest(0, 0, 0, 99);
        t.due("both shut: only together would they earn", x.even(), NONE);
        x.keep(1, 1);
        t.due("one shut: alone it would earn", x.even(), 0);
        x.keep(1, 0);
        x.keep(0, NONE);
        t.due("the first would, the second too only then", x.even(), 0);
        x.keep(0, 1);
        t.due("the second would", x.even(), 1);
        RoadOfDoors y = Edges.kept(2, "opens gift=3;", "opens gift=4;");
        y.keep(1, 0);
        y.guest(0, 0, 0, 6);
        t.due("more of one would shut him out", y.even(), NONE);
    }

    private void evenOfTheLowest() {
        t.says("EVEN: NONE, if it is; else the lowest DOOR that would EARN more.");
        RoadOfDoors x = Edges.told(8, "opens gift=1;", "opens gift=2;");
        x.guest(0, 0, 0, 99);
        for (int door = 0; door < 8; door++) {
            Edges.rules(x, 1, 1, 1, 1, 1, 1, 1, 1);
            t.due("all keep the best", x.even(), NONE);
            x.keep(door, 0);
            t.due("one alone: " + door, x.even(), door);
            x.keep(7, 0);
            t.due("of it and the last", x.even(), door);
            x.keep(0, 0);
            t.due("of them and the first", x.even(), 0);
        }
    }

    // ---- rounds

    private void roundsAre(RoadOfDoors x, String name, int rounds, int... rules) {
        t.due(name + ": rounds", x.rounds(NONE), rounds);
        for (int door = 0; door < rules.length; door++) {
            t.due(name + ": rule then of " + door, x.rounds(door), rules[door]);
        }
    }

    private void noRound() {
        t.says("till a whole round changes nothing: how many rounds changed something (0 .. 20), and the RULE of each DOOR then");
        RoadOfDoors x = new RoadOfDoors(3);
        roundsAre(x, "a new road", 0, NONE, NONE, NONE);
        RoadOfDoors y = Edges.told(3, TOLLS);
        Edges.rules(y, 2, NONE, 1);
        roundsAre(y, "no guests", 0, 2, NONE, 1);
        y.guest(0, 0, 0, 99);
        roundsAre(y, "one is shut: the first gains in the second round", 2, 3, 3, 3);
        y.keep(0, NONE);
        roundsAre(y, "two are shut", 0, NONE, NONE, 1);
        Edges.rules(y, 3, 3, 3);
        roundsAre(y, "all have the best", 0, 3, 3, 3);
    }

    private void ownAheadOfLike() {
        t.says("each takes the RULE by which it would EARN most (it keeps its own, if that is one of these;"
                + " else of like ones the lowest, none ahead of all), the others being as they are then;");
        RoadOfDoors x = Edges.told(1, "opens gift=2;", "opens gift=2 and knocks=2;", "opens gift=2 and knocks=3;", "opens gift=1;");
        x.guest(0, 0, 0, 99);
        for (int own = 0; own < 3; own++) {
            x.keep(0, own);
            roundsAre(x, "its own is one of the best", 0, own);
        }
        RoadOfDoors y = Edges.told(1, "opens gift=0;", "opens 1=2;", "wait 1;");
        y.guest(0, 0, 0, 99);
        for (int own = NONE; own < 3; own++) {
            y.keep(0, own);
            roundsAre(y, "all earn nothing: its own", 0, own);
        }
    }

    private void lowestOfLike() {
        t.says("else of like ones the lowest, none ahead of all");
        String[][] orders = {{"1", "2", "2", "0"}, {"2", "1", "2", "2"}, {"0", "1", "2", "2"}, {"1", "0", "1", "2"}};
        int[] lowest = {1, 0, 2, 3};
        for (int i = 0; i < orders.length; i++) {
            RoadOfDoors x = new RoadOfDoors(1);
            for (int text = 0; text < 4; text++) {
                Checks.tell(x, "opens gift=" + orders[i][text] + " and knocks>" + text + ";");
            }
            x.guest(0, 0, 0, 99);
            for (int own = NONE; own < 4; own++) {
                x.keep(0, own);
                boolean best = own >= 0 && orders[i][own].equals("2");
                roundsAre(x, "order " + i + " from " + own, best ? 0 : 1, best ? own : lowest[i]);
            }
        }
    }

    private void doorByDoor() {
        t.says("ROUNDS: DOOR by DOOR from 0 on");
        RoadOfDoors x = Edges.told(3, "opens gift=1;", "opens gift=2;", "opens gift=3;");
        Edges.rules(x, 0, 0, 0);
        x.guest(0, 0, 0, 3);
        roundsAre(x, "no more is there", 0, 0, 0, 0);
        x.clear();
        x.guest(0, 0, 0, 4);
        roundsAre(x, "one more: the first takes it", 1, 1, 0, 0);
        x.clear();
        x.guest(0, 0, 0, 5);
        roundsAre(x, "two more: the first takes both", 1, 2, 0, 0);
        x.clear();
        x.guest(0, 0, 0, 6);
        roundsAre(x, "three more: the second takes one", 1, 2, 1, 0);
        x.clear();
        x.guest(0, 0, 0, 8);
        roundsAre(x, "five more: the third takes the last", 1, 2, 2, 1);
        Edges.rules(x, 0, 2, 0);
        x.clear();
        x.guest(0, 0, 0, 5);
        roundsAre(x, "what another has it keeps", 0, 0, 2, 0);
    }

    private void roundsCounted() {
        t.says("how many rounds changed something (0 .. 20)");
        RoadOfDoors x = Edges.told(8, TOLLS);
        Edges.rules(x, 0, 0, 0, 0, 0, 0, 0, 0);
        x.guest(0, 0, 0, 99);
        roundsAre(x, "all change in one", 1, 3, 3, 3, 3, 3, 3, 3, 3);
        RoadOfDoors y = Edges.told(3, "opens gift>=2;", "opens gift>=5 or hour=8 and gift=1;",
                "opens gift>=2 or hour=12;", "opens gift>=mood;");
        begins(y, 783, new int[][] {{4, 0, 11, 7}, {9, 0, 21, 4}, {9, 0, 12, 8}}, 2, 3, 2);
        roundsAre(y, "the second changes one more", 2, 0, 0, 2);
        RoadOfDoors z = Edges.told(4, "opens gift>=2 or hour=12;", "opens gift>=3 or waited>=2 and gift=1;",
                "opens gift>=5 or hour=8 and gift=1;");
        begins(z, 9901, new int[][] {{3, 0, 19, 11}, {2, 0, 1, 14}, {7, 0, 4, 4}}, 0, 1, 0, 2);
        roundsAre(z, "eight", 8, 1, 1, 1, 1);
        for (int last = 0; last < 4; last++) {
            RoadOfDoors w = new RoadOfDoors(2);
            for (int text = 0; text < 4; text++) {
                Checks.tell(w, "opens door=0 and gift=" + (text == 0 ? 4 : 2) + " or door=1 and gift=" + (text == last ? 5 : 2) + ";");
            }
            for (int own = 0; own < 4; own++) {
                begins(w, 0, new int[][] {{0, 0, 0, 99}}, own, NONE);
                roundsAre(w, last + " for none, then the first for " + own, own == 0 ? 1 : 2, 0, last);
                w.clear();
            }
        }
    }

    private static void begins(RoadOfDoors x, int seed, int[][] guests, int... rules) {
        x.moods(seed);
        Edges.rules(x, rules);
        for (int[] of : guests) {
            guest(x, of);
        }
    }

    /** Found by search: what each of 21 rounds leaves, one behind the other; the 22nd changes nothing. */
    private void roundsAtMost() {
        t.says("none: 21 rounds changed something.");
        int[][] left = {{3, 1, 1, 0, 2, 2, 0}, {3, 1, 1, 0, 1, 2, 0}, {3, 1, 1, 1, 0, 2, 0}, {0, 1, 1, 0, 0, 2, 1},
            {0, 3, 0, 0, 0, 1, 0}, {2, 3, 1, 1, 1, 0, 0}, {0, 1, 1, 1, 2, 0, 0}, {0, 1, 1, 0, 2, 1, 0}, {0, 3, 0, 0, 1, 0, 0},
            {2, 3, 1, 1, 0, 0, 0}, {0, 1, 1, 2, 1, 0, 0}, {1, 1, 0, 2, 1, 0, 0}, {1, 0, 0, 2, 1, 0, 0}, {0, 0, 0, 1, 2, 0, 0},
            {0, 0, 1, 0, 2, 0, 0}, {0, 0, 0, 0, 2, 3, 1}, {0, 0, 0, 0, 1, 1, 2}, {0, 1, 1, 1, 1, 0, 2}, {0, 1, 1, 1, 0, 0, 2},
            {0, 1, 1, 0, 0, 0, 2}, {0, 1, 0, 0, 0, 0, 2}, {0, 3, 0, 0, 0, 0, 2}};
        RoadOfDoors x = Edges.told(7,
                "opens gift>=load-0 or gift>=2 and door#1 or waited>=2 and gift>=1 and door#4 or gift*1>=door+4;",
                "opens hour=5 and gift>=0 or hour<1 and gift>=3 or gift*1>=door+1;", "opens hour=11 and gift>=3;",
                "opens gift>=1 or hour=14 and gift>=3;");
        begins(x, 7288, new int[][] {{1, 0, 10, 18}, {0, 0, 5, 4}, {8, 0, 16, 92}, {3, 0, 2, 13}}, left[0]);
        roundsAre(x, "the 21st changes something", OTHERS, OTHERS, OTHERS, OTHERS, OTHERS, OTHERS, OTHERS, OTHERS);
        for (int i = 1; i < left.length; i++) {
            Edges.rules(x, left[i]);
            roundsAre(x, "behind " + i, 21 - i, left[21]);
        }
        t.due("then it is even", x.even(), NONE);
        RoadOfDoors y = Edges.told(2, "opens gift>=2 or hour=12 and gift=0;", "opens gift>=5 or hour=8 and gift=1;");
        begins(y, 0, new int[][] {{0, 0, 11, 9}}, 0, 0);
        roundsAre(y, "no end", OTHERS, OTHERS, OTHERS);
        t.due("again", y.rounds(NONE), OTHERS);
        y.clear();
        roundsAre(y, "without guests", 0, 0, 0);
    }

    private void roundsOfOthers() {
        t.says("ROUNDS: how many (door NONE); the RULE of a DOOR then (NONE: none). -2: none, and for others.");
        for (int doors = 1; doors <= 8; doors++) {
            RoadOfDoors x = Edges.told(doors, "opens gift=1;");
            x.guest(0, 0, 0, 99);
            t.due("how many", x.rounds(NONE), doors == 1 ? 1 : 0);
            t.due("the first", x.rounds(0), doors == 1 ? 0 : NONE);
            t.due("the last", x.rounds(doors - 1), doors == 1 ? 0 : NONE);
            for (int wrong : Edges.outside(NONE, doors - 1)) {
                t.due("rounds(" + wrong + ") of " + doors, x.rounds(wrong), OTHERS);
            }
        }
    }

    private void nothingIsChanged() {
        t.says("(TRIED: nothing is changed.)");
        RoadOfDoors x = Edges.told(3, TOLLS);
        Edges.rules(x, 0, 1, NONE);
        x.sets(3, 1, 4, 20);
        x.later(2);
        x.guest(0, 0, 0, 99);
        x.seen(0, 0, 1, 1, 0, true);
        int[] before = Edges.all(x);
        t.due("even", x.even(), 2);
        roundsAre(x, "rounds", 2, 3, 3, 3);
        t.due("even yet", x.even(), 2);
        t.stays("tried alone", x, before);
        t.due("earns as it is", x.earns(0), 0);
        Edges.rules(x, 0, 1, 2);
        earned(x, "by the rules told", 1, 2, 3);
        roundsAre(x, "rounds again", 1, 3, 3, 3);
        earned(x, "by the rules told yet", 1, 2, 3);
        t.due("the first rule yet", Arrays.equals(new int[] {x.about(10), x.about(11), x.about(12)}, new int[] {0, 1, 2}), true);
    }
}
