import java.util.Arrays;

/** The edges of ways, sentence by sentence. */
public final class WayEdgesTest {
    private static final int NONE = RoadOfDoors.NONE;
    private static final int GIFTS = NONE;
    private static final int HOURS = -2;
    private static final int NO_WAY = -3;
    private static final boolean CHEAPEST = false;
    private static final boolean SOONEST = true;

    private final Edges t = new Edges();

    public static void main(String[] args) {
        WayEdgesTest all = new WayEdgesTest();
        all.waysOfOthers();
        all.whatIsAsked();
        all.hoursAtMost();
        all.fewestDoorsAndHours();
        all.purseAtMost();
        all.cheapest();
        all.soonest();
        all.soonestByPurse();
        all.waitingAheadOfKnocks();
        all.fewerKnocksAhead();
        all.onlyKnocksThatOpen();
        all.nothingBeyond();
        all.noGreaterGift();
        all.keysAndHinges();
        all.waitedOnTheWay();
        all.hoursOnTheWay();
        all.whatRulesSee();
        all.fromDoorNone();
        all.t.end();
    }

    /** A way from hour 0, without load and keys. */
    private void wayIs(RoadOfDoors x, int n, int purse, boolean soonest, int gifts, int... acts) {
        wayIs(x, new int[] {0, 0, 0, n, purse}, soonest, gifts, acts);
    }

    /** Of: load, keys, hour, n, purse. */
    private void wayIs(RoadOfDoors x, int[] of, boolean soonest, int gifts, int... acts) {
        String name = (soonest ? "soonest of " : "cheapest of ") + Arrays.toString(of) + ", ";
        t.due(name + "gifts", ask(x, of, soonest, GIFTS), gifts);
        t.due(name + "hours", ask(x, of, soonest, HOURS), acts.length);
        for (int i = 0; i < acts.length; i++) {
            t.due(name + "hour " + i, ask(x, of, soonest, i), acts[i]);
        }
        t.due(name + "the hour past the last", ask(x, of, soonest, acts.length), NO_WAY);
    }

    private void noWay(RoadOfDoors x, int n, int purse) {
        for (int what : new int[] {GIFTS, HOURS, 0, 1, 47}) {
            t.due("no way in " + n + " for " + purse, x.way(0, 0, 0, n, purse, CHEAPEST, what), NO_WAY);
            t.due("no soonest in " + n + " for " + purse, x.way(0, 0, 0, n, purse, SOONEST, what), NO_WAY);
        }
    }

    private static int ask(RoadOfDoors x, int[] of, boolean soonest, int what) {
        return x.way(of[0], of[1], of[2], of[3], of[4], soonest, what);
    }

    /** So many hours waited, then these acts. */
    private static int[] behind(int waits, int... acts) {
        int[] all = new int[waits + acts.length];
        System.arraycopy(acts, 0, all, waits, acts.length);
        return all;
    }

    private static int[] joined(int[] a, int[] b) {
        int[] all = Arrays.copyOf(a, a.length + b.length);
        System.arraycopy(b, 0, all, a.length, b.length);
        return all;
    }

    private void waysOfOthers() {
        t.says("-3: there is none such, no WAY, and for others.");
        int[] low = {0, 0, 0, 1, 0};
        int[] high = {9, 3, 23, 48, 99};
        RoadOfDoors x = Edges.kept(2, "opens 1=1;");
        int[] before = Edges.all(x);
        for (int i = 0; i < 5; i++) {
            int[] of = {0, 0, 0, 48, 0};
            of[i] = i == 3 ? 2 : low[i];
            t.due("the least at " + i, ask(x, of, CHEAPEST, HOURS), 2);
            of[i] = high[i];
            t.due("the most at " + i, ask(x, of, CHEAPEST, HOURS), 2);
            t.due("the most at " + i + ", soonest", ask(x, of, SOONEST, GIFTS), 0);
            for (int wrong : Edges.outside(low[i], high[i])) {
                of[i] = wrong;
                for (int what : new int[] {GIFTS, HOURS, 0}) {
                    t.due(wrong + " at " + i, ask(x, of, CHEAPEST, what), NO_WAY);
                    t.due(wrong + " at " + i + ", soonest", ask(x, of, SOONEST, what), NO_WAY);
                }
            }
        }
        t.stays("asked alone", x, before);
        RoadOfDoors y = Edges.kept(1, "opens 1=1;");
        t.due("n of 1", y.way(0, 0, 0, 1, 0, CHEAPEST, HOURS), 1);
        t.due("n of 0", y.way(0, 0, 0, 0, 0, CHEAPEST, HOURS), NO_WAY);
    }

    private void whatIsAsked() {
        t.says("A WAY, CHEAPEST or SOONEST: what NONE: GIFTS together, -2: HOURS; else what he does in that HOUR (0 ..): 0 he waits,"
                + " 10 times KNOCKS and the GIFT.");
        RoadOfDoors x = Edges.kept(2, "opens hour=2 and knocks=7 and gift=5;", "opens hour=4 and knocks=1 and gift=0;");
        for (boolean soonest : new boolean[] {CHEAPEST, SOONEST}) {
            wayIs(x, 48, 99, soonest, 5, 0, 0, 75, 0, 10);
            for (int what : new int[] {-3, -4, -256, Integer.MIN_VALUE, 5, 6, 47, 48, 49, 256, 260, Integer.MAX_VALUE}) {
                t.due("what " + what, x.way(0, 0, 0, 48, 99, soonest, what), NO_WAY);
            }
        }
        RoadOfDoors y = Edges.kept(2, "opens hour=23;");
        t.due("the 48th hour", y.way(0, 0, 0, 48, 0, SOONEST, 47), 10);
        t.due("the hour past it", y.way(0, 0, 0, 48, 0, SOONEST, 48), NO_WAY);
    }

    private void hoursAtMost() {
        t.says("within n HOURS (1 to 48)");
        RoadOfDoors x = Edges.kept(2, "opens hour=23;");
        int[] both = joined(behind(23, 10), behind(23, 10));
        wayIs(x, 48, 0, CHEAPEST, 0, both);
        wayIs(x, 48, 0, SOONEST, 0, both);
        noWay(x, 47, 99);
        for (int hour = 0; hour < 24; hour++) {
            int hours = 48 - hour;
            t.due("from " + hour + " on", x.way(0, 0, hour, hours, 0, CHEAPEST, HOURS), hours);
            t.due("one hour less", x.way(0, 0, hour, hours - 1, 0, CHEAPEST, HOURS), NO_WAY);
            t.due("soonest from " + hour + " on", x.way(0, 0, hour, 48, 0, SOONEST, HOURS), hours);
            t.due("soonest, one hour less", x.way(0, 0, hour, hours - 1, 0, SOONEST, HOURS), NO_WAY);
        }
        RoadOfDoors y = Edges.kept(8, "opens waited>=5;");
        t.due("8 doors of 6 hours", y.way(0, 0, 0, 48, 0, CHEAPEST, HOURS), 48);
        t.due("soonest", y.way(0, 0, 0, 48, 0, SOONEST, HOURS), 48);
        noWay(y, 47, 99);
        RoadOfDoors z = Edges.kept(8, "opens waited>=5;", "opens waited>=6;", "opens waited>=5;");
        noWay(z, 48, 99);
    }

    private void fewestDoorsAndHours() {
        t.says("what he does each HOUR until he is through.");
        for (int doors = 1; doors <= 8; doors++) {
            RoadOfDoors x = Edges.kept(doors, "opens knocks>=door and gift>=door/2;");
            int[] acts = new int[doors];
            int gifts = 0;
            for (int door = 0; door < doors; door++) {
                acts[door] = 10 * Math.max(1, door) + door / 2;
                gifts += door / 2;
            }
            wayIs(x, doors, gifts, CHEAPEST, gifts, acts);
            wayIs(x, doors, gifts, SOONEST, gifts, acts);
            wayIs(x, 48, 99, CHEAPEST, gifts, acts);
            wayIs(x, 48, 99, SOONEST, gifts, acts);
            if (doors > 1) {
                noWay(x, doors - 1, 99);
            }
        }
    }

    private void purseAtMost() {
        t.says("within n HOURS (1 to 48) and a PURSE");
        for (int gift = 1; gift <= 5; gift++) {
            RoadOfDoors x = Edges.kept(1, "opens gift>=" + gift + ";");
            wayIs(x, 48, gift, CHEAPEST, gift, 10 + gift);
            wayIs(x, 48, gift, SOONEST, gift, 10 + gift);
            noWay(x, 48, gift - 1);
        }
        for (int doors = 1; doors <= 8; doors++) {
            RoadOfDoors x = Edges.kept(doors, "opens gift=5;");
            int all = 5 * doors;
            t.due("all of it", x.way(0, 0, 0, 48, all, CHEAPEST, GIFTS), all);
            t.due("all of it, soonest", x.way(0, 0, 0, 48, all, SOONEST, GIFTS), all);
            t.due("of the fullest", x.way(0, 0, 0, 48, 99, SOONEST, GIFTS), all);
            noWay(x, 48, all - 1);
        }
        RoadOfDoors y = Edges.kept(1, "opens 1=1;");
        wayIs(y, 1, 0, CHEAPEST, 0, 10);
        wayIs(y, 1, 0, SOONEST, 0, 10);
    }

    private void cheapest() {
        t.says("CHEAPEST: least GIFTS together, of like ones fewest HOURS");
        RoadOfDoors x = Edges.kept(1, "opens hour=0 and gift=2 or hour=3 and gift=1 or hour=5 and gift=1"
                + " or hour=7 and gift=0 or hour=9 and gift=0;");
        wayIs(x, 48, 99, CHEAPEST, 0, behind(7, 10));
        wayIs(x, 8, 99, CHEAPEST, 0, behind(7, 10));
        wayIs(x, 48, 0, CHEAPEST, 0, behind(7, 10));
        wayIs(x, 7, 99, CHEAPEST, 1, behind(3, 11));
        wayIs(x, 4, 1, CHEAPEST, 1, behind(3, 11));
        wayIs(x, 3, 99, CHEAPEST, 2, 12);
        wayIs(x, 1, 2, CHEAPEST, 2, 12);
        RoadOfDoors y = Edges.kept(2, "opens hour=0 and gift=1 or hour=1 and gift=0;",
                "opens hour=1 and gift=0 or hour>1 and gift=3;");
        wayIs(y, 25, 99, CHEAPEST, 1, 11, 10);
        wayIs(y, 26, 99, CHEAPEST, 0, joined(behind(1, 10), behind(23, 10)));
        RoadOfDoors z = Edges.kept(3, "opens gift=2 or waited=3 and gift=1;");
        wayIs(z, 5, 99, CHEAPEST, 6, 12, 12, 12);
        wayIs(z, 6, 99, CHEAPEST, 5, 0, 0, 0, 11, 12, 12);
        wayIs(z, 9, 99, CHEAPEST, 4, 0, 0, 0, 11, 0, 0, 0, 11, 12);
        wayIs(z, 12, 99, CHEAPEST, 3, 0, 0, 0, 11, 0, 0, 0, 11, 0, 0, 0, 11);
    }

    private void soonest() {
        t.says("SOONEST: fewest HOURS, of like ones least GIFTS");
        RoadOfDoors x = Edges.kept(1, "opens knocks=1 and gift=4 or knocks=5 and gift=2 or hour=1 and gift=0;");
        wayIs(x, 48, 99, SOONEST, 2, 52);
        wayIs(x, 48, 3, SOONEST, 2, 52);
        wayIs(x, 48, 1, SOONEST, 0, 0, 10);
        RoadOfDoors y = Edges.kept(2, "opens hour=0 and gift=3 or hour=1 and gift=1;", "opens hour=2;");
        wayIs(y, 48, 99, SOONEST, 1, 0, 11, 10);
        RoadOfDoors z = Edges.kept(2, "opens hour=0 and gift=1 or hour=1 and gift=3;", "opens hour=2;");
        wayIs(z, 48, 99, SOONEST, 1, 11, 0, 10);
        RoadOfDoors w = Edges.kept(2, "opens gift=1 or hour=3;", "opens gift=1 and hour<3 or hour=4 and gift=5 or hour=5;");
        wayIs(w, 48, 99, SOONEST, 2, 11, 11);
        wayIs(w, 48, 99, CHEAPEST, 0, 0, 0, 0, 10, 0, 10);
    }

    private void soonestByPurse() {
        t.says("SOONEST: fewest HOURS, of like ones least GIFTS");
        RoadOfDoors x = Edges.kept(1, "opens gift+hour>=5;");
        for (int purse = 0; purse <= 5; purse++) {
            wayIs(x, 48, purse, SOONEST, purse, behind(5 - purse, 10 + purse));
            wayIs(x, 6 - purse, purse, SOONEST, purse, behind(5 - purse, 10 + purse));
            noWay(x, 5 - purse, purse);
        }
        wayIs(x, 48, 99, SOONEST, 5, 15);
        wayIs(x, 3, 99, CHEAPEST, 3, behind(2, 13));
        RoadOfDoors y = Edges.kept(3, "opens gift=2 or waited=3 and gift=1;");
        wayIs(y, 48, 6, SOONEST, 6, 12, 12, 12);
        wayIs(y, 48, 5, SOONEST, 5, 0, 0, 0, 11, 12, 12);
        wayIs(y, 48, 4, SOONEST, 4, 0, 0, 0, 11, 0, 0, 0, 11, 12);
        wayIs(y, 48, 3, SOONEST, 3, 0, 0, 0, 11, 0, 0, 0, 11, 0, 0, 0, 11);
        noWay(y, 48, 2);
    }

    private void waitingAheadOfKnocks() {
        t.says("then, of like ones, in the first HOUR waiting ahead of KNOCKS, fewer KNOCKS ahead of more, then in the second, ..");
        for (boolean soonest : new boolean[] {CHEAPEST, SOONEST}) {
            RoadOfDoors x = Edges.kept(3, "opens 1=1;", "opens 1=1;", "opens hour=5;");
            wayIs(x, 48, 9, soonest, 0, 0, 0, 0, 10, 10, 10);
            RoadOfDoors y = Edges.kept(3, "opens hour=0;", "opens 1=1;", "opens hour=4;");
            wayIs(y, 48, 9, soonest, 0, 10, 0, 0, 10, 10);
            RoadOfDoors z = Edges.kept(3, "opens hour<2;", "opens hour#3;", "opens hour=4;");
            wayIs(z, 48, 9, soonest, 0, 0, 10, 10, 0, 10);
            RoadOfDoors w = Edges.kept(2, "opens knocks=7;", "opens hour=1 and knocks=7 or hour=2 and knocks=2;");
            wayIs(w, 48, 9, soonest, 0, 70, 70);
            RoadOfDoors v = Edges.kept(2, "opens gift=1;", "opens gift=2 and hour<4 or hour=4 and gift=1;");
            wayIs(v, 4, 9, soonest, 3, 11, 12);
            wayIs(v, 48, 2, soonest, 2, 0, 0, 0, 11, 11);
        }
    }

    private void fewerKnocksAhead() {
        t.says("fewer KNOCKS ahead of more, then in the second, ..");
        for (int knocks = 1; knocks <= 7; knocks++) {
            RoadOfDoors x = Edges.kept(2, "opens knocks>=" + knocks + ";", "opens knocks>=" + (8 - knocks) + " and gift=1;");
            wayIs(x, 48, 9, CHEAPEST, 1, 10 * knocks, 10 * (8 - knocks) + 1);
            wayIs(x, 48, 9, SOONEST, 1, 10 * knocks, 10 * (8 - knocks) + 1);
        }
        for (boolean soonest : new boolean[] {CHEAPEST, SOONEST}) {
            RoadOfDoors x = Edges.kept(1, "opens knocks=6 and gift=1 or knocks=4 and gift=1 or knocks=2 and gift=2;");
            wayIs(x, 48, 9, soonest, 1, 41);
            RoadOfDoors y = Edges.kept(1, "opens knocks=1 and gift=1 or knocks=7;");
            wayIs(y, 48, 9, soonest, 0, 70);
            RoadOfDoors z = Edges.kept(1, "opens knocks=8-gift;");
            wayIs(z, 48, 9, soonest, 1, 71);
        }
    }

    private void onlyKnocksThatOpen() {
        t.says("never a KNOCK that does not OPEN");
        for (boolean soonest : new boolean[] {CHEAPEST, SOONEST}) {
            RoadOfDoors x = Edges.kept(2, "opens hour=3;", "opens waited=2;");
            wayIs(x, 48, 9, soonest, 0, 0, 0, 0, 10, 0, 0, 10);
            RoadOfDoors y = Edges.kept(2, "opens 1=1;", "opens 1=2;");
            t.due("no way", y.way(0, 0, 0, 48, 99, soonest, HOURS), NO_WAY);
            y.keep(1, NONE);
            t.due("no way by none", y.way(0, 0, 0, 48, 99, soonest, HOURS), NO_WAY);
            Checks.tell(y, "knock 1 with 0;");
            y.keep(1, 2);
            t.due("no way by a rule without", y.way(0, 0, 0, 48, 99, soonest, GIFTS), NO_WAY);
            y.keep(1, 0);
            t.due("a way", y.way(0, 0, 0, 48, 99, soonest, HOURS), 2);
            y.keep(0, 1);
            t.due("no way through the first", y.way(0, 0, 0, 48, 99, soonest, HOURS), NO_WAY);
        }
    }

    private void nothingBeyond() {
        t.says("never a KNOCK that does not OPEN");
        for (String beyond : new String[] {"gift=6", "gift>5", "gift<0", "knocks=8", "knocks>7", "knocks=0", "knocks<1", "waited=10",
            "hour=24", "hour<0", "load=10", "rain=10", "mood=10", "door=1", "door<0", "waited<0"}) {
            RoadOfDoors x = Edges.kept(1, "opens " + beyond + ";");
            noWay(x, 48, 99);
            x.guest(0, 0, 0, 99);
            t.due("nothing is earned by " + beyond, x.earns(0), 0);
        }
        for (String edge : new String[] {"gift=5", "gift<1", "knocks=7", "knocks<2", "waited=9", "waited<1", "hour=23", "hour<1", "load=9",
            "rain=9", "mood=9", "door=0"}) {
            RoadOfDoors x = Edges.kept(1, "opens " + edge + ";");
            x.rain(7, 9);
            x.mood(0, 9);
            t.due("a way by " + edge, x.way(9, 0, 0, 48, 99, CHEAPEST, GIFTS), edge.equals("gift=5") ? 5 : 0);
        }
    }

    private void noGreaterGift() {
        t.says("nor a GIFT greater than the least by which these KNOCKS OPEN then.");
        for (boolean soonest : new boolean[] {CHEAPEST, SOONEST}) {
            for (int gift = 0; gift <= 5; gift++) {
                RoadOfDoors x = Edges.kept(1, "opens gift>=" + gift + ";");
                wayIs(x, 48, 99, soonest, gift, 10 + gift);
            }
            RoadOfDoors x = Edges.kept(2, "opens gift=3 or gift=5;", "opens gift=2 and knocks=3 or gift=4 and knocks=3;");
            wayIs(x, 48, 99, soonest, 5, 13, 32);
            RoadOfDoors y = Edges.kept(1, "opens hour=2 and gift>=4 or hour=2 and waited<2 and gift=1;");
            wayIs(y, 48, 99, soonest, 4, 0, 0, 14);
        }
        RoadOfDoors x = Edges.kept(1, "opens gift>=5-waited;");
        wayIs(x, 48, 99, SOONEST, 5, 15);
        wayIs(x, 48, 3, SOONEST, 3, 0, 0, 13);
        wayIs(x, 48, 99, CHEAPEST, 0, 0, 0, 0, 0, 0, 10);
    }

    private void keysAndHinges() {
        t.says("A WAY for one with LOAD, KEYS, from an HOUR on, at DOOR 0");
        RoadOfDoors x = Edges.kept(8, "opens gift=3 and knocks=3;");
        for (int door = 0; door < 8; door++) {
            int[] acts = {33, 33, 33, 33, 33, 33, 33, 33};
            acts[door] = 10;
            wayIs(x, new int[] {0, 1 << door, 0, 8, 99}, CHEAPEST, 21, acts);
            x.hinge(door, false);
            wayIs(x, new int[] {0, 0, 0, 8, 99}, SOONEST, 21, acts);
            x.hinge(door, true);
        }
        t.due("all keys", x.way(0, 255, 0, 8, 0, CHEAPEST, GIFTS), 0);
        t.due("one key more than there are", x.way(0, 256, 0, 8, 99, CHEAPEST, GIFTS), NO_WAY);
        x.sets(0, 255, 0, 99);
        t.due("the traveller's keys are not his", x.way(0, 0, 0, 8, 99, CHEAPEST, GIFTS), 24);
        RoadOfDoors y = new RoadOfDoors(2);
        noWay(y, 48, 99);
        t.due("by one key of two", y.way(0, 1, 0, 48, 99, SOONEST, GIFTS), NO_WAY);
        t.due("by the other", y.way(0, 2, 0, 48, 99, SOONEST, GIFTS), NO_WAY);
        wayIs(y, new int[] {0, 3, 0, 2, 0}, CHEAPEST, 0, 10, 10);
        y.hinge(0, false);
        wayIs(y, new int[] {0, 2, 0, 2, 0}, SOONEST, 0, 10, 10);
    }

    private void waitedOnTheWay() {
        t.says("WAITED is one more (9 at most)");
        for (boolean soonest : new boolean[] {CHEAPEST, SOONEST}) {
            for (int waited = 0; waited <= 9; waited++) {
                RoadOfDoors x = Edges.kept(1, "opens waited=" + waited + ";");
                wayIs(x, 48, 9, soonest, 0, behind(waited, 10));
                wayIs(x, waited + 1, 9, soonest, 0, behind(waited, 10));
                t.due("not within " + waited, waited == 0 ? NO_WAY : x.way(0, 0, 0, waited, 9, soonest, HOURS), NO_WAY);
            }
            RoadOfDoors x = Edges.kept(1, "opens waited=9 and hour=15;");
            wayIs(x, 48, 9, soonest, 0, behind(15, 10));
            RoadOfDoors y = Edges.kept(1, "opens waited=10;");
            t.due("never 10", y.way(0, 0, 0, 48, 99, soonest, HOURS), NO_WAY);
            RoadOfDoors z = Edges.kept(4, "opens waited=9;");
            t.due("0 before the next", z.way(0, 0, 0, 48, 99, soonest, HOURS), 40);
            t.due("39 hours are too few", z.way(0, 0, 0, 39, 99, soonest, HOURS), NO_WAY);
            RoadOfDoors w = Edges.kept(5, "opens waited=9;");
            t.due("48 hours are too few", w.way(0, 0, 0, 48, 99, soonest, HOURS), NO_WAY);
            RoadOfDoors u = Edges.kept(8, "opens door<7 or waited=9 and hour=3;");
            wayIs(u, 48, 9, soonest, 0, joined(behind(11, 10, 10, 10, 10, 10, 10, 10), behind(9, 10)));
            RoadOfDoors v = Edges.kept(2, "opens hour=4;", "opens waited=0 and hour=5 and gift=1 or waited=4;");
            wayIs(v, 9, 9, soonest, 1, behind(4, 10, 11));
        }
    }

    private void hoursOnTheWay() {
        t.says("then HOUR is one more (by 24)");
        for (int hour = 0; hour < 24; hour++) {
            RoadOfDoors x = Edges.kept(1, "opens hour=" + hour + " and rain=" + (hour % 9 + 1) + ";");
            x.rain(hour, hour % 9 + 1);
            for (int from = 0; from < 24; from += 5) {
                int waits = (hour - from + 24) % 24;
                wayIs(x, new int[] {0, 0, from, 48, 0}, CHEAPEST, 0, behind(waits, 10));
                t.due("just within", x.way(0, 0, from, waits + 1, 0, SOONEST, waits), 10);
            }
        }
        RoadOfDoors y = Edges.kept(1, "opens hour=24;");
        noWay(y, 48, 99);
        RoadOfDoors z = Edges.kept(3, "opens hour=23;", "opens hour=0 and gift=1;", "opens hour=1;");
        wayIs(z, new int[] {0, 0, 23, 3, 1}, CHEAPEST, 1, 10, 11, 10);
    }

    private void whatRulesSee() {
        t.says("LOAD, KEYS, from an HOUR on");
        for (int load = 0; load <= 9; load++) {
            RoadOfDoors x = Edges.kept(1, "opens load=" + load + " and gift=load/2;");
            x.sets(9 - load, 0, 0, 99);
            for (int other = 0; other <= 9; other++) {
                t.due("load " + other + " of " + load, x.way(other, 0, 0, 48, 99, CHEAPEST, 0),
                        other == load ? 10 + load / 2 : NO_WAY);
            }
        }
        RoadOfDoors x = Edges.kept(8, "opens gift*2>=mood and knocks>door-1;");
        t.due("moods of each", x.moods(9999), 3);
        wayIs(x, 48, 99, SOONEST, 2 + 5 + 0 + 1 + 1 + 1 + 1 + 2, 12, 15, 20, 31, 41, 51, 61, 72);
        x.mood(1, 0);
        t.due("another mood", x.way(0, 0, 0, 48, 99, CHEAPEST, 1), 10);
        RoadOfDoors y = Edges.kept(2, "opens rain=9 and gift=2 or hour=3 and rain=0 and gift=4;");
        y.rain(2, 9);
        y.rain(23, 9);
        wayIs(y, 48, 99, CHEAPEST, 4, joined(behind(2, 12), behind(20, 12)));
        y.rain(3, 9);
        wayIs(y, 48, 99, CHEAPEST, 4, behind(2, 12, 12));
    }

    private void fromDoorNone() {
        t.says("A WAY for one with LOAD, KEYS, from an HOUR on, at DOOR 0");
        RoadOfDoors x = Edges.kept(2, "opens gift=door+1;");
        x.sets(0, 0, 5, 9);
        x.knock(1, 1);
        x.later(1);
        int[] before = Edges.all(x);
        wayIs(x, new int[] {0, 0, 0, 48, 9}, CHEAPEST, 3, 11, 12);
        t.stays("the traveller under way", x, before);
        x.knock(1, 2);
        before = Edges.all(x);
        wayIs(x, new int[] {0, 0, 0, 48, 9}, SOONEST, 3, 11, 12);
        t.stays("the traveller through", x, before);
    }
}
