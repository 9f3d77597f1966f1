import java.util.Random;

/** Long runs of calls by draws, each answer held against the model's. */
public final class ModelTest {
    private static final String[] NAMES = {"door", "hour", "rain", "mood", "gift", "knocks", "waited", "load"};
    private static final String[] COMPARED = {"<", "<=", ">", ">=", "=", "#"};

    private final Random random;
    private final Checks checks;
    private final int doors;
    private final int heavy;
    private final RoadOfDoors x;
    private final Model m;
    private final StringBuilder past = new StringBuilder();
    private int calls;

    private ModelTest(long seed, Checks checks, int doors, int heavy) {
        this.random = new Random(seed);
        this.checks = checks;
        this.doors = Math.max(1, Math.min(8, doors));
        this.heavy = heavy;
        this.x = new RoadOfDoors(doors);
        this.m = new Model(doors);
        past.append("seed ").append(seed).append(" doors ").append(doors);
    }

    public static void main(String[] args) {
        Checks checks = new Checks();
        long first = args.length > 0 ? Long.parseLong(args[0]) : 1;
        long runs = args.length > 1 ? Long.parseLong(args[1]) : 400;
        for (long seed = first; seed < first + runs; seed++) {
            int doors = seed % 4 == 0 ? (int) (seed / 4 % 10) : 1 + (int) (seed / 4 % 4);
            new ModelTest(seed, checks, doors, doors > 4 ? 400 : doors > 2 ? 60 : 25).run();
        }
        for (long seed = first; seed < first + 4 * runs; seed++) {
            faults(new Random(seed), checks);
        }
        for (long seed = first; seed < first + runs / 2; seed++) {
            everyWay(new Random(seed), checks);
        }
        for (long seed = first; seed < first + runs / 8; seed++) {
            earnings(new Random(seed), checks);
        }
        checks.end();
    }

    // ---- texts by draws

    static String sum(Random r, int deep) {
        StringBuilder s = new StringBuilder();
        for (int i = r.nextInt(3) == 0 ? 2 : 1; i > 0; i--) {
            int kind = r.nextInt(deep > 3 ? 7 : 10);
            if (kind < 4) {
                s.append(NAMES[r.nextInt(8)]);
            } else if (kind < 7) {
                s.append(r.nextInt(8) == 0 ? r.nextInt(10000) : r.nextInt(10));
            } else if (kind < 9) {
                s.append("(").append(sum(r, deep + 1)).append(")");
            } else {
                s.append("-").append(r.nextBoolean() ? " " : "").append(sum(r, deep + 1));
            }
            s.append(i > 1 ? " ".repeat(r.nextInt(2)) + "+-*/".charAt(r.nextInt(4)) : "");
        }
        return s.toString();
    }

    static String ask(Random r) {
        String not = r.nextInt(6) == 0 ? "not " : "";
        if (r.nextInt(3) > 0) {
            return not + NAMES[r.nextInt(8)] + COMPARED[r.nextInt(6)] + r.nextInt(r.nextInt(4) == 0 ? 24 : 8);
        }
        return not + sum(r, 0) + " " + COMPARED[r.nextInt(6)] + sum(r, 0);
    }

    static String opens(Random r) {
        StringBuilder s = new StringBuilder("opens ");
        s.append(ask(r));
        for (int i = r.nextInt(4); i > 0; i--) {
            s.append(r.nextBoolean() ? " and " : "\nor ").append(ask(r));
        }
        return s.append(";").toString();
    }

    /** A rule that now and then asks for a gift, so that there are ways and something to earn. */
    static String toll(Random r) {
        String s = "opens gift>=" + r.nextInt(6);
        s += r.nextBoolean() ? " and knocks=" + (1 + r.nextInt(7)) : "";
        s += r.nextBoolean() ? " or waited>" + r.nextInt(10) : "";
        s += r.nextBoolean() ? " or hour=" + r.nextInt(24) + " and gift=" + r.nextInt(6) : "";
        s += r.nextInt(3) == 0 ? " or gift+load>" + (3 + r.nextInt(9)) : "";
        s += r.nextInt(4) == 0 ? " or gift*2>=mood+door" : "";
        return s + ";";
    }

    static String text(Random r) {
        StringBuilder s = new StringBuilder();
        boolean opened = r.nextInt(8) == 0;
        for (int i = r.nextInt(5); i >= 0; i--) {
            int kind = r.nextInt(4);
            if (!opened && kind < 2) {
                s.append(r.nextBoolean() ? toll(r) : opens(r));
                opened = true;
            } else if (kind == 2) {
                s.append("wait ").append(r.nextInt(r.nextBoolean() ? 4 : 25)).append(";");
            } else {
                s.append("knock ").append(1 + r.nextInt(7)).append(" with ").append(r.nextInt(6)).append(" ;");
            }
        }
        return s.toString();
    }

    static String broken(Random r) {
        StringBuilder s = new StringBuilder(r.nextInt(3) > 0 ? text(r) : opens(r));
        String[] bits = {"opens ", "not ", "(", "-", ")", ";", " and ", " or ", "knock ", " with ", "wait ", "8", "25",
            "9999", "10000", "0009", "99999999999999999999", "<", "=", ">=", "# ", "*", "/", "load", "Hour", "gifts", "\t",
            "\u00e9", "!", " ", "\n", "0", "7", "not(((", "((((((((", "--------", "not not not not ", "wait 1;wait 2;"};
        for (int i = r.nextInt(3); i >= 0; i--) {
            int at = r.nextInt(s.length() + 1);
            if (r.nextBoolean()) {
                s.insert(at, bits[r.nextInt(bits.length)]);
            } else if (at < s.length()) {
                s.delete(at, Math.min(s.length(), at + 1 + r.nextInt(6)));
            }
        }
        if (r.nextInt(10) == 0) {
            int copies = 20 + r.nextInt(8);
            s.insert(r.nextInt(2) == 0 ? 0 : s.length(), "wait1;".repeat(copies));
        }
        return s.toString();
    }

    // ---- runs

    private void feed(String text) {
        due("end(0)", x.end(0), m.end(0));
        String whole = text.length() > 300 ? text.substring(0, 300) : text;
        for (int i = 0; i < whole.length(); i += 20) {
            int[] w = Checks.words(whole, i);
            due("feed", x.feed(w[0], w[1], w[2], w[3], w[4]), m.feed(w));
        }
        due("end(" + whole.length() + ")", x.end(whole.length()), m.end(whole.length()));
        due("text() of " + whole.replace("\n", "\\n"), x.text(), m.text());
        due("fault(0)", x.fault(0), m.fault(0));
        due("fault(1)", x.fault(1), m.fault(1));
    }

    private static void faults(Random r, Checks checks) {
        ModelTest t = new ModelTest(r.nextLong(), checks, 2, 1);
        for (int i = 0; i < 12; i++) {
            t.feed(broken(r));
            int text = t.m.all.texts.size() - 1;
            t.due("keep", t.x.keep(0, text), t.m.keep(0, text));
            t.due("mood", t.x.mood(0, i % 10), t.m.mood(0, i % 10));
            for (int j = 0; j < 12; j++) {
                t.opensAny(r);
            }
            if (text == 3) {
                t.due("back", t.x.back(), t.m.back());
            }
        }
    }

    private void opensAny(Random r) {
        int door = r.nextInt(doors);
        int hour = r.nextInt(24);
        int knocks = 1 + r.nextInt(7);
        int gift = r.nextInt(6);
        int waited = r.nextInt(10);
        int load = r.nextInt(10);
        due("opens(" + door + "," + hour + "," + knocks + "," + gift + "," + waited + "," + load + ")",
                x.opens(door, hour, knocks, gift, waited, load), m.opens(door, hour, knocks, gift, waited, load));
    }

    /** On small roads the model tries every way there is, one by one. */
    private static void everyWay(Random r, Checks checks) {
        int doors = 1 + r.nextInt(2);
        ModelTest t = new ModelTest(r.nextLong(), checks, doors, 1);
        for (int i = 0; i < 3; i++) {
            t.feed(toll(r));
            t.due("keep", t.x.keep(i % doors, i), t.m.keep(i % doors, i));
        }
        for (int i = 0; i < 4; i++) {
            int load = r.nextInt(10);
            int hour = r.nextInt(24);
            int n = 1 + r.nextInt(6);
            int purse = r.nextInt(9);
            for (int what = -2; what <= n; what++) {
                boolean soonest = i % 2 == 0;
                t.due("way", t.x.way(load, 0, hour, n, purse, soonest, what),
                        t.m.way(load, 0, hour, n, purse, soonest, what, false));
            }
        }
    }

    /** Few doors with tolls and many guests, changed call by call: what is earned, and where it leads. */
    private static void earnings(Random r, Checks checks) {
        int doors = 1 + r.nextInt(3);
        ModelTest t = new ModelTest(r.nextLong(), checks, doors, 1);
        for (int i = 0; i < 3; i++) {
            t.feed(toll(r));
            t.due("keep", t.x.keep(i % doors, i), t.m.keep(i % doors, i));
        }
        for (int i = 0; i < 6; i++) {
            int load = r.nextInt(10);
            int keys = r.nextInt(4) == 0 ? r.nextInt(1 << doors) : 0;
            int hour = r.nextInt(24);
            int purse = r.nextInt(14);
            t.due("guest", t.x.guest(load, keys, hour, purse), t.m.guest(load, keys, hour, purse));
            int of = r.nextInt(doors);
            t.due("mood", t.x.mood(of, i), t.m.mood(of, i));
            t.due("rounds", t.x.rounds(-1), t.m.rounds(-1));
            t.due("rounds(" + of + ")", t.x.rounds(of), t.m.rounds(of));
            t.due("even", t.x.even(), t.m.even());
            t.due("earns(" + of + ")", t.x.earns(of), t.m.earns(of));
        }
    }

    private void due(String call, boolean got, boolean want) {
        due(call, got ? 1 : 0, want ? 1 : 0);
    }

    private void due(String call, int got, int want) {
        calls++;
        past.append(" | ").append(call).append(" ").append(want);
        if (got != want) {
            String all = past.toString();
            checks.due(call + " behind " + all.substring(Math.max(0, all.length() - 1500)), got, want);
        } else {
            checks.due(call, got, want);
        }
    }

    /** Mostly within 0 .. most, now and then just beyond. */
    private int about(int most) {
        int draw = random.nextInt(40);
        return draw == 0 ? -1 : draw == 1 ? most + 1 : random.nextInt(most + 1);
    }

    /** An object is used for 512 calls at most: the longest of these makes 20, and 61 are made at the end. */
    private void run() {
        while (calls < 430) {
            if (random.nextInt(heavy) == 0) {
                callHeavy();
            } else {
                call(random.nextInt(21));
            }
        }
        for (int what = -1; what < 60; what++) {
            due("about(" + what + ")", x.about(what), m.about(what));
        }
    }

    private void callHeavy() {
        int what = random.nextInt(4);
        if (what == 0) {
            due("even", x.even(), m.even());
        } else if (what == 1) {
            int door = about(doors - 1);
            due("earns(" + door + ")", x.earns(door), m.earns(door));
        } else {
            due("rounds(-1)", x.rounds(-1), m.rounds(-1));
            int door = about(doors);
            due("rounds(" + door + ")", x.rounds(door), m.rounds(door));
        }
    }

    private void call(int kind) {
        int door = about(doors - 1);
        int keys = random.nextInt(3) == 0 ? about((1 << doors) - 1) : 0;
        switch (kind) {
            case 0:
                int h = about(23);
                int rain = about(9);
                due("rain(" + h + "," + rain + ")", x.rain(h, rain), m.rain(h, rain));
                break;
            case 1:
                int mood = about(9);
                due("mood(" + door + "," + mood + ")", x.mood(door, mood), m.mood(door, mood));
                break;
            case 2:
                int seed = about(9999);
                due("moods(" + seed + ")", x.moods(seed), m.moods(seed));
                break;
            case 3:
                boolean is = random.nextInt(5) > 0;
                due("hinge(" + door + "," + is + ")", x.hinge(door, is), m.hinge(door, is));
                break;
            case 4:
                feed(random.nextInt(3) == 0 ? broken(random) : text(random));
                break;
            case 5:
                int rule = about(3);
                due("keep(" + door + "," + rule + ")", x.keep(door, rule), m.keep(door, rule));
                break;
            case 6:
                opensAny(random);
                break;
            case 7:
                sets(about(9), keys, about(23), about(99));
                break;
            case 8:
                int knocks = about(7);
                int gift = about(5);
                due("knock(" + knocks + "," + gift + ")", x.knock(knocks, gift), m.knock(knocks, gift));
                break;
            case 9:
                int hours = random.nextInt(4) == 0 ? about(24) : about(3);
                due("later(" + hours + ")", x.later(hours), m.later(hours));
                break;
            case 10:
                int text = about(3);
                due("played(" + text + ")", x.played(text), m.played(text));
                break;
            case 11:
                due("undo", x.undo(), m.undo());
                break;
            case 12:
                int t = about(5);
                due("traveller(" + t + ")", x.traveller(t), m.traveller(t));
                break;
            case 13:
                ways(about(9), keys, about(23));
                break;
            case 14:
                int load = about(9);
                int hour = about(23);
                int purse = random.nextInt(3) == 0 ? about(99) : about(12);
                due("guest(" + load + "," + keys + "," + hour + "," + purse + ")",
                        x.guest(load, keys, hour, purse), m.guest(load, keys, hour, purse));
                break;
            case 15:
                if (random.nextInt(4) == 0) {
                    due("clear", x.clear(), m.clear());
                }
                break;
            case 16:
                seen(door);
                break;
            case 17:
                int of = about(9);
                due("kept(" + door + "," + of + ")", x.kept(door, of), m.kept(door, of));
                break;
            case 18:
                due("image", x.image(), m.image());
                break;
            case 19:
                due("back", x.back(), m.back());
                break;
            default:
                int what = random.nextInt(60) - 2;
                due("about(" + what + ")", x.about(what), m.about(what));
                break;
        }
    }

    private void sets(int load, int keys, int hour, int purse) {
        due("sets(" + load + "," + keys + "," + hour + "," + purse + ")",
                x.sets(load, keys, hour, purse), m.sets(load, keys, hour, purse));
    }

    private void seen(int door) {
        int hour = about(23);
        int knocks = about(7);
        int gift = about(5);
        int waited = about(9);
        boolean opened = random.nextBoolean();
        due("seen(" + door + "," + hour + "," + knocks + "," + gift + "," + waited + "," + opened + ")",
                x.seen(door, hour, knocks, gift, waited, opened), m.seen(door, hour, knocks, gift, waited, opened));
    }

    private void ways(int load, int keys, int hour) {
        int n = doors > 4 ? about(15) : about(48);
        int purse = random.nextInt(3) == 0 ? about(99) : about(12);
        boolean soonest = random.nextBoolean();
        for (int i = 0; i < 3; i++) {
            int what = i == 0 ? -1 : i == 1 ? -2 : random.nextInt(Math.max(1, n));
            due("way(" + load + "," + keys + "," + hour + "," + n + "," + purse + "," + soonest + "," + what + ")",
                    x.way(load, keys, hour, n, purse, soonest, what), m.way(load, keys, hour, n, purse, soonest, what));
        }
    }
}
