/** The edges of doors, rain, moods, knocks and the traveller, sentence by sentence. */
public final class RoadEdgesTest {
    private static final int NONE = RoadOfDoors.NONE;

    private final Edges t = new Edges();

    public static void main(String[] args) {
        RoadEdgesTest all = new RoadEdgesTest();
        all.constants();
        all.newRoads();
        all.newTraveller();
        all.newImage();
        all.doorsOfEachCall();
        all.doorsAtFirst();
        all.doorsOfTheirOwn();
        all.rainAtFirst();
        all.rainTold();
        all.moodTold();
        all.moodsDrawn();
        all.hinges();
        all.knocksLookedAt();
        all.opensByKeyOrHingeOrRule();
        all.opensForOthers();
        all.giftsGivenOrKept();
        all.travellerTold();
        all.giftsAndPurse();
        all.knocksThatCannotBe();
        all.hoursGoRound();
        all.waitedAtMost();
        all.through();
        all.waits();
        all.waitsThatCannotBe();
        all.steps();
        all.stepsOfEachKind();
        all.stepsTakenBack();
        all.travellerAsked();
        all.t.end();
    }

    private void constants() {
        t.says("The constants: `NONE = -1`: None.");
        t.due("NONE", NONE, -1);
    }

    private void newRoads() {
        t.says("D DOORS (1 to 8; others: the nearest of these)");
        int[][] told = {{Integer.MIN_VALUE, 1}, {-255, 1}, {-1, 1}, {0, 1}, {1, 1}, {2, 2}, {3, 3}, {4, 4}, {5, 5}, {6, 6},
            {7, 7}, {8, 8}, {9, 8}, {257, 8}, {Integer.MAX_VALUE, 8}};
        for (int[] pair : told) {
            RoadOfDoors x = new RoadOfDoors(pair[0]);
            t.due("about(0) of " + pair[0], x.about(0), pair[1]);
            t.due("its last door", x.mood(pair[1] - 1, 1), true);
            t.due("none behind it", x.mood(pair[1], 1), false);
            for (int door = 0; door < pair[1]; door++) {
                x.hinge(door, false);
                t.due("knock at " + door + " of " + pair[0], x.knock(1, 0), 1);
            }
            t.due("through at D", x.traveller(0), pair[1]);
        }
    }

    private void newTraveller() {
        t.says("THE TRAVELLER has no LOAD, KEYS, PURSE, at HOUR 0");
        for (int doors = 1; doors <= 8; doors++) {
            RoadOfDoors x = new RoadOfDoors(doors);
            for (int what = 0; what <= 5; what++) {
                t.due("traveller(" + what + ")", x.traveller(what), 0);
            }
            t.due("no step", x.undo(), NONE);
            t.due("no purse", x.knock(1, 1), NONE);
            t.due("no key", x.knock(1, 0), 0);
            t.due("no texts", x.played(0), -2);
        }
        RoadOfDoors x = Edges.kept(2, "opens load=0 and hour=0 and waited=0;", "opens load>0 or hour#1;");
        t.due("as the first rule sees him", x.knock(1, 0), 1);
        t.due("as the second sees him", x.knock(1, 0), 0);
    }

    private void newImage() {
        t.says("THE IMAGE is this");
        for (int doors = 1; doors <= 8; doors++) {
            RoadOfDoors x = new RoadOfDoors(doors);
            int[] before = Edges.all(x);
            x.rain(0, 1);
            x.rain(23, 9);
            x.moods(9999);
            x.hinge(doors - 1, false);
            Checks.tell(x, "opens 1=1;");
            x.keep(0, 0);
            x.guest(1, 1, 1, 1);
            x.seen(0, 0, 1, 0, 0, true);
            x.sets(9, 1, 23, 99);
            x.knock(1, 1);
            t.due("back", x.back(), 0);
            t.staysButTape("a new road", x, before);
            t.due("no guest earns for it", x.earns(0), 0);
            t.due("nothing was seen", x.kept(0, 0), 16);
            t.due("no text", x.keep(0, 0), false);
            t.due("no step", x.undo(), NONE);
        }
    }

    private void doorsOfEachCall() {
        t.says("DOORS 0 .. D - 1 (D 1 to 8)");
        for (int doors = 1; doors <= 8; doors++) {
            RoadOfDoors x = Edges.kept(doors, "opens 1=1;");
            for (int door : new int[] {0, doors - 1}) {
                t.due("mood of " + door, x.mood(door, 0), true);
                t.due("hinge of " + door, x.hinge(door, true), true);
                t.due("keep of " + door, x.keep(door, 0), true);
                t.due("opens of " + door, x.opens(door, 0, 1, 0, 0, 0), true);
                t.due("earns of " + door, x.earns(door), 0);
                t.due("rounds of " + door, x.rounds(door), 0);
                t.due("seen of " + door, x.seen(door, 0, 1, 0, 0, true) > 0, true);
                t.due("kept of " + door, x.kept(door, 0), 1);
                t.due("about of " + door, x.about(10 + door) + x.about(20 + door), 0);
            }
            int[] before = Edges.all(x);
            for (int door : Edges.outside(0, doors - 1)) {
                t.due("mood of " + door, x.mood(door, 1), false);
                t.due("hinge of " + door, x.hinge(door, false), false);
                t.due("keep of " + door, x.keep(door, NONE), false);
                t.due("opens of " + door, x.opens(door, 0, 1, 0, 0, 0), false);
                t.due("earns of " + door, x.earns(door), NONE);
                t.due("rounds of " + door, x.rounds(door), door == NONE ? 0 : -2);
                t.due("seen of " + door, x.seen(door, 0, 1, 0, 0, true), NONE);
                t.due("kept of " + door, x.kept(door, 0), NONE);
            }
            t.stays("doors that are none", x, before);
        }
    }

    private void doorsAtFirst() {
        t.says("each has a RULE (a TEXT or none; at first none), a MOOD (0 .. 9; at first 0), and is HINGED or not"
                + " (at first it is).");
        for (int doors = 1; doors <= 8; doors++) {
            RoadOfDoors x = Edges.told(doors, "opens 1=1;");
            for (int door = 0; door < doors; door++) {
                t.due("rule of " + door, x.about(10 + door), NONE);
                t.due("mood of " + door + ", hinged", x.about(20 + door), 0);
                t.due("it does not open", x.opens(door, 0, 1, 0, 0, 0), false);
                t.due("a text", x.keep(door, 0), true);
                t.due("it opens by it", x.opens(door, 0, 1, 0, 0, 0), true);
                t.due("none again", x.keep(door, NONE), true);
                t.due("it does not open again", x.opens(door, 0, 1, 0, 0, 0), false);
            }
        }
    }

    private void doorsOfTheirOwn() {
        t.says("each has a RULE");
        RoadOfDoors x = Edges.told(8, "opens mood=7;", "opens mood=6;", "wait 1;", "opens 1=1;");
        int[] rules = {NONE, 0, 1, 2, 3, 3, NONE, 0};
        int[] moods = {0, 1, 2, 9, 8, 7, 6, 7};
        for (int door = 7; door >= 0; door--) {
            x.keep(door, rules[door]);
            x.mood(door, moods[door]);
            x.hinge(door, door % 3 > 0);
        }
        for (int door = 0; door < 8; door++) {
            t.due("rule of " + door, x.about(10 + door), rules[door]);
            t.due("mood and hinge of " + door, x.about(20 + door), moods[door] + (door % 3 > 0 ? 0 : 10));
            t.due("opens(" + door + ")", x.opens(door, 0, 1, 0, 0, 0),
                    door % 3 == 0 || door == 7 || door == 4 || door == 5);
        }
    }

    private void rainAtFirst() {
        t.says("RAIN of each of the 24 HOURS of a day (0 .. 9; at first 0).");
        RoadOfDoors x = Edges.kept(1, "opens rain=hour/3 and hour<12 or rain=9-hour/4 and hour>=12;");
        for (int hour = 0; hour < 24; hour++) {
            t.due("rain at first of " + hour, x.about(30 + hour), 0);
            t.due("opens at first in " + hour, x.opens(0, hour, 1, 0, 0, 0), hour < 3);
        }
        t.due("no hour past the last", x.about(54), -2);
        for (int hour = 23; hour >= 0; hour--) {
            t.due("rain(" + hour + ")", x.rain(hour, hour < 12 ? hour / 3 : 9 - hour / 4), true);
        }
        for (int hour = 0; hour < 24; hour++) {
            t.due("rain of " + hour, x.about(30 + hour), hour < 12 ? hour / 3 : 9 - hour / 4);
            t.due("opens in " + hour, x.opens(0, hour, 1, 0, 0, 0), true);
        }
    }

    private void rainTold() {
        t.says("RAIN of an HOUR: true. False for others.");
        RoadOfDoors x = new RoadOfDoors(1);
        for (int hour : new int[] {0, 23}) {
            for (int r : new int[] {9, 0, 1, 8}) {
                t.due("rain(" + hour + ", " + r + ")", x.rain(hour, r), true);
                t.due("about", x.about(30 + hour), r);
            }
        }
        int[] before = Edges.all(x);
        for (int wrong : Edges.outside(0, 23)) {
            t.due("rain(" + wrong + ", 5)", x.rain(wrong, 5), false);
        }
        for (int wrong : Edges.outside(0, 9)) {
            t.due("rain(0, " + wrong + ")", x.rain(0, wrong), false);
            t.due("rain(23, " + wrong + ")", x.rain(23, wrong), false);
        }
        t.stays("rain of others", x, before);
    }

    private void moodTold() {
        t.says("MOOD of a DOOR: true. False for others.");
        RoadOfDoors x = new RoadOfDoors(3);
        for (int door : new int[] {0, 2}) {
            for (int m : new int[] {9, 0, 1, 8}) {
                t.due("mood(" + door + ", " + m + ")", x.mood(door, m), true);
                t.due("about", x.about(20 + door), m);
            }
        }
        int[] before = Edges.all(x);
        for (int wrong : Edges.outside(0, 2)) {
            t.due("mood(" + wrong + ", 5)", x.mood(wrong, 5), false);
        }
        for (int wrong : Edges.outside(0, 9)) {
            t.due("mood(0, " + wrong + ")", x.mood(0, wrong), false);
            t.due("mood(2, " + wrong + ")", x.mood(2, wrong), false);
        }
        t.stays("moods of others", x, before);
    }

    private void moodsDrawn() {
        t.says("MOODS by a SEED: X is SEED (0 .. 9999) * 5 + 8; DOOR by DOOR: X mod 10, X becoming"
                + " (X * 197 + 59) mod 30113 behind it.");
        int[][] drawn = {{0, 8, 5, 4, 6, 3, 1, 0, 1}, {1, 3, 0, 8, 4, 5, 2, 5, 3}, {4998, 8, 6, 3, 5, 9, 3, 2, 1},
            {9999, 3, 9, 0, 2, 1, 2, 2, 4}};
        for (int doors = 1; doors <= 8; doors++) {
            RoadOfDoors x = new RoadOfDoors(doors);
            for (int[] row : drawn) {
                x.hinge(doors - 1, false);
                t.due("moods(" + row[0] + ")", x.moods(row[0]), row[1]);
                for (int door = 0; door < doors; door++) {
                    t.due("mood of " + door + " by " + row[0], x.about(20 + door),
                            row[1 + door] + (door == doors - 1 ? 10 : 0));
                }
            }
        }
        t.says("MOODS by a SEED: that of DOOR 0. NONE for others.");
        RoadOfDoors x = Edges.kept(2, "opens mood=8;", "opens mood=5;");
        t.due("moods(0)", x.moods(0), 8);
        int[] before = Edges.all(x);
        for (int wrong : Edges.outside(0, 9999)) {
            t.due("moods(" + wrong + ")", x.moods(wrong), NONE);
        }
        t.stays("moods by other seeds", x, before);
        t.due("rules see them", x.opens(0, 0, 1, 0, 0, 0) && x.opens(1, 0, 1, 0, 0, 0), true);
    }

    private void hinges() {
        t.says("A DOOR is HINGED, or not: true. False for others.");
        RoadOfDoors x = new RoadOfDoors(8);
        for (int door = 0; door < 8; door++) {
            t.due("hinged already", x.hinge(door, true), true);
            t.due("hinged off", x.hinge(door, false), true);
            t.due("off already", x.hinge(door, false), true);
            for (int other = 0; other < 8; other++) {
                t.due("opens(" + other + ")", x.opens(other, 0, 1, 0, 0, 0), other == door);
            }
            t.due("about", x.about(20 + door), 10);
            t.due("hinged again", x.hinge(door, true), true);
            t.due("about then", x.about(20 + door), 0);
        }
        int[] before = Edges.all(x);
        for (int wrong : Edges.outside(0, 7)) {
            t.due("hinge(" + wrong + ", false)", x.hinge(wrong, false), false);
            t.due("hinge(" + wrong + ", true)", x.hinge(wrong, true), false);
        }
        t.stays("hinges of others", x, before);
    }

    private void knocksLookedAt() {
        t.says("A KNOCK at a DOOR: KNOCKS (1 .. 7), a GIFT (0 .. 5), by one with a LOAD (0 .. 9) who has WAITED"
                + " before it (0 .. 9), with KEYS (a set of DOORS, bits)");
        RoadOfDoors x = Edges.kept(1, "opens knocks=7 and gift=5 and load=9 and waited=9 and hour=18;",
                "opens knocks=1 and gift=0 and load=0 and waited=0 and hour=18;");
        x.sets(9, 0, 9, 5);
        x.later(9);
        t.due("the most of all", x.knock(7, 5), 1);
        x.keep(0, 1);
        x.sets(0, 0, 18, 5);
        t.due("the least of all", x.knock(1, 0), 1);
        for (int doors = 1; doors <= 8; doors++) {
            RoadOfDoors y = new RoadOfDoors(doors);
            int all = (1 << doors) - 1;
            t.due("all keys", y.sets(0, all, 0, 0), true);
            t.due("he has them", y.traveller(5), all);
            t.due("no key", y.sets(0, 0, 0, 0), true);
            t.due("the last key", y.sets(0, 1 << doors - 1, 0, 0), true);
            for (int wrong : Edges.outside(0, all)) {
                t.due("keys " + wrong, y.sets(0, wrong, 0, 0), false);
            }
            t.due("he has the last yet", y.traveller(5), 1 << doors - 1);
        }
    }

    private void opensByKeyOrHingeOrRule() {
        t.says("it OPENS, if it isn't HINGED, or he has its KEY, or its RULE has opens, and opens is so"
                + " (a RULE without, none: it does not).");
        for (int door = 0; door < 8; door++) {
            RoadOfDoors x = Edges.told(8, "opens 1=2;", "opens 1=1;", "knock 1 with 0;");
            t.due("none", knockAt(x, door, 0), 0);
            t.due("none, by all other keys", knockAt(x, door, 255 ^ 1 << door), 0);
            t.due("none, by its key", knockAt(x, door, 1 << door), 1);
            x.keep(door, 0);
            t.due("opens is not so", knockAt(x, door, 0), 0);
            t.due("opens is not so, by its key", knockAt(x, door, 1 << door), 1);
            x.keep(door, 1);
            t.due("opens is so", knockAt(x, door, 0), 1);
            x.keep(door, 2);
            t.due("a rule without", knockAt(x, door, 255 ^ 1 << door), 0);
            t.due("a rule without, by its key", knockAt(x, door, 255), 1);
            x.hinge(door, false);
            t.due("not hinged", knockAt(x, door, 0), 1);
            x.keep(door, 0);
            t.due("not hinged, opens is not so", knockAt(x, door, 0), 1);
            x.hinge(door, true);
            t.due("hinged again", knockAt(x, door, 0), 0);
        }
    }

    private static int knockAt(RoadOfDoors x, int door, int keys) {
        x.sets(0, keys, 0, 0);
        Edges.goesTo(x, door);
        return x.knock(1, 0);
    }

    private void opensForOthers() {
        t.says("Whether a DOOR OPENS (without a KEY). False for others.");
        RoadOfDoors x = Edges.unhinged(2);
        int[] low = {0, 0, 1, 0, 0, 0};
        int[] high = {1, 23, 7, 5, 9, 9};
        int[] before = Edges.all(x);
        for (int i = 0; i < 6; i++) {
            int[] a = low.clone();
            a[i] = high[i];
            t.due("the most at " + i, opens(x, a), true);
            int[] b = high.clone();
            b[i] = low[i];
            t.due("the least at " + i, opens(x, b), true);
            for (int wrong : Edges.outside(low[i], high[i])) {
                a[i] = wrong;
                t.due("opens, " + wrong + " at " + i, opens(x, a), false);
            }
        }
        t.stays("asked alone", x, before);
        RoadOfDoors y = new RoadOfDoors(1);
        y.sets(0, 1, 0, 0);
        t.due("the traveller's key is not asked", y.opens(0, 0, 1, 0, 0, 0), false);
        t.due("he opens by it", y.knock(1, 0), 1);
    }

    private static boolean opens(RoadOfDoors x, int[] a) {
        return x.opens(a[0], a[1], a[2], a[3], a[4], a[5]);
    }

    private void giftsGivenOrKept() {
        t.says("The GIFT is given, if it OPENS (also where it is not HINGED, or by a KEY), else kept.");
        for (int gift = 0; gift <= 5; gift++) {
            RoadOfDoors x = Edges.told(3, "opens 1=1;");
            x.keep(0, 0);
            x.hinge(1, false);
            x.sets(0, 4, 0, 20);
            t.due("by its rule", x.knock(1, gift), 1);
            t.due("given", x.traveller(3), 20 - gift);
            t.due("not hinged", x.knock(1, gift), 1);
            t.due("given, too", x.traveller(3), 20 - 2 * gift);
            t.due("by a key", x.knock(1, gift), 1);
            t.due("given as well", x.traveller(3), 20 - 3 * gift);
            RoadOfDoors y = new RoadOfDoors(1);
            y.sets(0, 0, 0, 20);
            t.due("shut", y.knock(1, gift), 0);
            t.due("kept", y.traveller(3), 20);
        }
    }

    private void travellerTold() {
        t.says("THE TRAVELLER: LOAD, KEYS, PURSE (0 .. 99) as told; at DOOR 0 (D: he is through), HOUR as told, WAITED 0.");
        RoadOfDoors x = Edges.unhinged(2);
        int[] high = {9, 3, 23, 99};
        x.sets(1, 1, 1, 1);
        x.knock(1, 0);
        x.hinge(1, true);
        x.later(3);
        t.travellerIs("under way", x, 1, 5, 3, 1, 4);
        t.due("the most", x.sets(9, 3, 23, 99), true);
        t.travellerIs("anew", x, 0, 23, 0, 99, 0);
        t.due("load", x.traveller(4), 9);
        t.due("keys", x.traveller(5), 3);
        t.due("the least", x.sets(0, 0, 0, 0), true);
        t.travellerIs("anew", x, 0, 0, 0, 0, 0);
        t.due("load", x.traveller(4), 0);
        t.due("keys", x.traveller(5), 0);
        t.says("THE TRAVELLER anew: true (STEPS are forgotten). False for others.");
        x.sets(5, 2, 7, 42);
        x.knock(1, 1);
        x.later(2);
        int[] before = Edges.all(x);
        for (int i = 0; i < 4; i++) {
            for (int wrong : Edges.outside(0, high[i])) {
                int[] a = {0, 0, 0, 0};
                a[i] = wrong;
                t.due("sets, " + wrong + " at " + i, x.sets(a[0], a[1], a[2], a[3]), false);
            }
        }
        t.stays("told wrongly, steps as well", x, before);
        t.due("a step is there yet", x.undo(), 2);
        t.due("told rightly", x.sets(5, 2, 7, 42), true);
        t.due("steps are forgotten", x.undo(), NONE);
        t.due("who is through begins anew", x.sets(0, 3, 0, 0) && x.knock(1, 0) + x.knock(1, 0) == 2
                && x.sets(0, 0, 0, 0) && x.traveller(0) == 0, true);
    }

    private void giftsAndPurse() {
        t.says("Each HOUR he KNOCKS (his GIFT no more than PURSE) or waits");
        for (int purse = 0; purse <= 6; purse++) {
            for (int gift = 0; gift <= 5; gift++) {
                RoadOfDoors x = Edges.told(3, "opens 1=1;");
                x.keep(0, 0);
                x.hinge(1, false);
                for (int door = 0; door < 3; door++) {
                    x.sets(0, 4, 0, purse);
                    for (int i = 0; i < door; i++) {
                        x.knock(1, 0);
                    }
                    boolean can = gift <= purse;
                    int then = can ? door + 1 : door;
                    t.due("gift " + gift + " of " + purse + " at " + door, x.knock(1, gift), can ? 1 : NONE);
                    t.travellerIs("then", x, then, then, 0, can ? purse - gift : purse, then);
                }
            }
        }
        RoadOfDoors y = new RoadOfDoors(1);
        y.sets(0, 0, 0, 3);
        t.due("above it, where it would not open", y.knock(1, 4), NONE);
        t.travellerIs("then", y, 0, 0, 0, 3, 0);
        t.due("all of it, where it does not open", y.knock(1, 3), 0);
        t.travellerIs("then", y, 0, 1, 1, 3, 1);
        y.sets(0, 1, 0, 99);
        t.due("of the fullest", y.knock(1, 5), 1);
        t.due("left", y.traveller(3), 94);
    }

    private void knocksThatCannotBe() {
        t.says("He KNOCKS: 1 it OPENS, 0 not. NONE, if he can't.");
        for (boolean open : new boolean[] {false, true}) {
            RoadOfDoors x = open ? Edges.unhinged(2) : new RoadOfDoors(2);
            x.sets(0, 0, 3, 99);
            x.later(1);
            int[] before = Edges.all(x);
            for (int wrong : Edges.outside(1, 7)) {
                t.due("knock(" + wrong + ", 0)", x.knock(wrong, 0), NONE);
            }
            for (int wrong : Edges.outside(0, 5)) {
                t.due("knock(1, " + wrong + ")", x.knock(1, wrong), NONE);
            }
            t.stays("knocks that can't be", x, before);
            for (int[] edge : new int[][] {{1, 0}, {7, 5}}) {
                t.due("knock(" + edge[0] + ", " + edge[1] + ")", x.knock(edge[0], edge[1]), open ? 1 : 0);
            }
            t.travellerIs("then", x, open ? 2 : 0, 6, open ? 0 : 3, open ? 94 : 99, 3);
        }
    }

    private void hoursGoRound() {
        t.says("then HOUR is one more (by 24), and he stands before the next DOOR, WAITED 0, if it did OPEN;"
                + " else WAITED is one more (9 at most).");
        for (int hour = 0; hour < 24; hour++) {
            RoadOfDoors x = new RoadOfDoors(2);
            x.hinge(0, false);
            int next = hour == 23 ? 0 : hour + 1;
            int last = hour >= 22 ? hour - 22 : hour + 2;
            x.sets(0, 0, hour, 9);
            x.later(1);
            t.travellerIs("waits in " + hour, x, 0, next, 1, 9, 1);
            x.knock(2, 2);
            t.travellerIs("knocks in " + next, x, 1, last, 0, 7, 2);
            x.sets(0, 0, hour, 9);
            x.knock(1, 1);
            t.travellerIs("knocks in " + hour, x, 1, next, 0, 8, 1);
            x.knock(1, 5);
            t.due("not opened in " + next, x.traveller(1) * 10 + x.traveller(2), last * 10 + 1);
        }
    }

    private void waitedAtMost() {
        t.says("WAITED is one more (9 at most)");
        RoadOfDoors x = new RoadOfDoors(2);
        for (int i = 1; i <= 12; i++) {
            x.knock(1, 0);
            t.due("by knock " + i, x.traveller(2), Math.min(9, i));
        }
        t.due("he still stands there", x.traveller(0), 0);
        x.hinge(0, false);
        x.knock(1, 0);
        t.due("waited 0 before the next", x.traveller(2), 0);
        for (int i = 1; i <= 12; i++) {
            x.later(1);
            t.due("by hour " + i, x.traveller(2), Math.min(9, i));
        }
        x.sets(0, 0, 0, 0);
        t.due("waited 0 anew", x.traveller(2), 0);
        x.hinge(0, true);
        x.later(8);
        t.due("8 at once", x.traveller(2), 8);
        x.later(2);
        t.due("8 and 2", x.traveller(2), 9);
        RoadOfDoors y = Edges.kept(1, "opens waited=9 and hour=20;");
        y.later(20);
        t.due("its rule sees 9 behind 20 hours", y.knock(1, 0), 1);
    }

    private void through() {
        t.says("Through, he does nothing more.");
        for (int doors = 1; doors <= 8; doors++) {
            RoadOfDoors x = Edges.unhinged(doors);
            Checks.tell(x, "wait 1;");
            Checks.tell(x, "opens 1=1;knock 1 with 0;");
            Checks.tell(x, "opens 1=1;");
            x.sets(3, 0, 20, 9);
            for (int door = 0; door < doors; door++) {
                t.due("not yet through", x.traveller(0), door);
                t.due("knock", x.knock(1, 1), 1);
            }
            t.travellerIs("through", x, doors, (20 + doors) % 24, 0, 9 - doors, doors);
            int[] before = Edges.all(x);
            t.due("knock(1, 0)", x.knock(1, 0), NONE);
            t.due("knock(7, 5)", x.knock(7, 5), NONE);
            t.due("later(0)", x.later(0), NONE);
            t.due("later(1)", x.later(1), NONE);
            t.due("later(24)", x.later(24), NONE);
            t.due("a wait played", x.played(0), 0);
            t.due("a knock played", x.played(1), 1);
            t.due("opens alone can be", x.played(2), NONE);
            t.stays("through", x, before);
            t.due("the last step can be taken back", x.undo(), doors - 1);
            t.due("before the last door again", x.traveller(0), doors - 1);
            t.due("he waits there", x.later(1), (20 + doors) % 24);
        }
    }

    private void waits() {
        t.says("He waits so many HOURS (0 .. 24): HOUR. NONE for others, and if he is through.");
        for (int hours = 0; hours <= 24; hours++) {
            RoadOfDoors x = new RoadOfDoors(1);
            x.sets(0, 0, 5, 7);
            int then = (5 + hours) % 24;
            t.due("later(" + hours + ")", x.later(hours), then);
            t.travellerIs("later(" + hours + ")", x, 0, then, Math.min(9, hours), 7, hours);
        }
    }

    private void waitsThatCannotBe() {
        t.says("NONE for others, and if he is through.");
        RoadOfDoors x = new RoadOfDoors(1);
        x.sets(0, 0, 23, 0);
        x.later(2);
        int[] before = Edges.all(x);
        for (int wrong : Edges.outside(0, 24)) {
            t.due("later(" + wrong + ")", x.later(wrong), NONE);
        }
        t.due("none at all", x.later(0), 1);
        t.stays("hours that can't be waited, and none", x, before);
        x.hinge(0, false);
        x.knock(1, 0);
        int[] through = Edges.all(x);
        for (int hours : new int[] {0, 1, 24, 25, -1}) {
            t.due("through, later(" + hours + ")", x.later(hours), NONE);
        }
        t.stays("through", x, through);
    }

    private void steps() {
        t.says("STEPS: each KNOCK and each HOUR waited by hand; the latest 30 can be taken back, the latest first.");
        for (int made = 28; made <= 33; made++) {
            RoadOfDoors x = new RoadOfDoors(1);
            x.sets(0, 0, 4, 9);
            x.later(24);
            for (int i = 24; i < made; i++) {
                x.knock(1, 2);
            }
            int can = Math.min(30, made);
            t.due(made + " steps, about(2)", x.about(2), can);
            for (int i = 1; i <= can; i++) {
                t.due(made + " steps, undo " + i, x.undo(), can - i);
                t.due("about(2)", x.about(2), can - i);
                t.due("hour", x.traveller(1), (4 + made - i) % 24);
                t.due("waited", x.traveller(2), Math.min(9, made - i));
            }
            t.due(made + " steps, none left", x.undo(), NONE);
            t.travellerIs("as ahead of the latest 30", x, 0, 4 + made - can, Math.min(9, made - can), 9, 0);
        }
    }

    private void stepsOfEachKind() {
        t.says("STEPS: each KNOCK and each HOUR waited by hand");
        RoadOfDoors x = Edges.told(2, "knock 1 with 1;wait 3;wait 0;");
        x.sets(0, 0, 0, 9);
        x.later(0);
        t.due("no hour waited", x.about(2), 0);
        x.knock(0, 0);
        x.knock(1, 6);
        x.later(25);
        t.due("none by calls that are refused", x.about(2), 0);
        x.knock(1, 1);
        t.due("a knock that does not open", x.about(2), 1);
        x.later(3);
        t.due("three hours at once are three", x.about(2), 4);
        x.played(0);
        t.due("played, as by hand", x.about(2), 8);
        x.hinge(0, false);
        x.hinge(1, false);
        x.knock(1, 1);
        x.knock(1, 1);
        t.due("knocks that open", x.about(2), 10);
        x.knock(1, 1);
        x.later(1);
        x.played(0);
        t.due("none of who is through", x.about(2), 10);
        x.later(24);
        x.way(0, 0, 0, 48, 9, false, NONE);
        t.due("none by a way", x.about(2), 10);
    }

    private void stepsTakenBack() {
        t.says("The latest STEP is taken back: how many can be yet. NONE: there is none.");
        RoadOfDoors x = Edges.told(3, "opens gift=2;");
        x.keep(0, 0);
        x.hinge(1, false);
        x.sets(6, 4, 22, 9);
        t.due("none at first", x.undo(), NONE);
        t.travellerIs("nothing is taken back", x, 0, 22, 0, 9, 0);
        x.knock(1, 0);
        x.knock(1, 2);
        x.later(10);
        x.knock(1, 3);
        x.knock(1, 4);
        t.travellerIs("through", x, 3, 12, 0, 0, 14);
        t.due("by a key", x.undo(), 13);
        t.travellerIs("before the last", x, 2, 11, 0, 4, 13);
        t.due("not hinged", x.undo(), 12);
        t.travellerIs("before the second", x, 1, 10, 9, 7, 12);
        t.due("the tenth hour", x.undo(), 11);
        t.travellerIs("9 hours waited", x, 1, 9, 9, 7, 11);
        t.due("the ninth hour", x.undo(), 10);
        t.travellerIs("8 hours waited", x, 1, 8, 8, 7, 10);
        for (int i = 9; i >= 2; i--) {
            t.due("an hour", x.undo(), i);
        }
        t.travellerIs("before the second at first", x, 1, 0, 0, 7, 2);
        t.due("by its rule", x.undo(), 1);
        t.travellerIs("before the first", x, 0, 23, 1, 9, 1);
        t.due("the first", x.undo(), 0);
        t.travellerIs("at first", x, 0, 22, 0, 9, 0);
        t.due("none is left", x.undo(), NONE);
        t.travellerIs("still at first", x, 0, 22, 0, 9, 0);
        t.due("load and keys are as told", x.traveller(4) * 10 + x.traveller(5), 64);
        t.due("he goes on", x.knock(1, 2), 1);
        x.rain(3, 3);
        x.mood(2, 2);
        t.due("undo", x.undo(), 0);
        t.due("of the traveller alone: rain", x.about(33), 3);
        t.due("mood", x.about(22), 2);
    }

    private void travellerAsked() {
        t.says("THE TRAVELLER: 0 before which DOOR he is (D: through), 1 HOUR, 2 WAITED, 3 PURSE, 4 LOAD, 5 KEYS. NONE for others.");
        RoadOfDoors x = Edges.unhinged(8);
        x.sets(7, 200, 21, 60);
        x.knock(1, 5);
        x.hinge(1, true);
        x.later(4);
        int[] want = {1, 2, 4, 55, 7, 200};
        for (int what = 0; what <= 5; what++) {
            t.due("traveller(" + what + ")", x.traveller(what), want[what]);
        }
        for (int wrong : Edges.outside(0, 5)) {
            t.due("traveller(" + wrong + ")", x.traveller(wrong), NONE);
        }
        x.hinge(1, false);
        for (int i = 1; i < 8; i++) {
            x.knock(1, 0);
        }
        t.due("through: D", x.traveller(0), 8);
    }
}
