import java.util.ArrayList;
import java.util.Arrays;
import java.util.HashMap;
import java.util.List;
import java.util.Map;

/**
 * The document once more, as plainly and slowly as can be, and otherwise built than the class: a descending parser
 * that throws faults, trees that are walked, ways compared action by action with the purse in hand, all 21 rounds.
 */
final class Model {
    static final class Fault extends Exception {
        final int number;
        final int place;

        Fault(int number, int place) {
            this.number = number;
            this.place = place;
        }
    }

    interface Tree {
        int value(Map<String, Integer> names);
    }

    static final class Token {
        final String text;
        final int place;

        Token(String text, int place) {
            this.text = text;
            this.place = place;
        }

        boolean isNumber() {
            return !text.isEmpty() && Character.isDigit(text.charAt(0));
        }

        boolean isNumberWithin(int low, int high) {
            String bare = text.replaceFirst("^0+(?=.)", "");
            return bare.length() <= 4 && Integer.parseInt(bare) >= low && Integer.parseInt(bare) <= high;
        }

        int number() {
            return Integer.parseInt(text.replaceFirst("^0+(?=.)", ""));
        }
    }

    static final class Script {
        Tree opens;
        final List<int[]> clauses = new ArrayList<>();
    }

    /** All that an image holds. */
    static final class All implements Cloneable {
        int[] rain = new int[24];
        int[] mood;
        boolean[] hinged;
        int[] rule;
        List<Script> texts = new ArrayList<>();
        int load, keys, purse, hour, waited, door;
        List<int[]> steps = new ArrayList<>();
        List<int[]> guests = new ArrayList<>();
        List<int[]> seen = new ArrayList<>();

        All copy() {
            All c = new All();
            c.rain = rain.clone();
            c.mood = mood.clone();
            c.hinged = hinged.clone();
            c.rule = rule.clone();
            c.texts = new ArrayList<>(texts);
            c.load = load;
            c.keys = keys;
            c.purse = purse;
            c.hour = hour;
            c.waited = waited;
            c.door = door;
            c.steps = new ArrayList<>(steps);
            c.guests = new ArrayList<>(guests);
            c.seen = new ArrayList<>(seen);
            return c;
        }
    }

    static final List<String> NAMES =
            List.of("door", "hour", "rain", "mood", "gift", "knocks", "waited", "load");
    static final List<String> COMPARED = List.of("<", "<=", ">", ">=", "=", "#");

    final int d;
    All all = new All();
    All image;
    final List<Integer> tape = new ArrayList<>();
    int faultNumber = -1;
    int faultPlace = -1;

    Model(int doors) {
        d = doors < 1 ? 1 : doors > 8 ? 8 : doors;
        all.mood = new int[d];
        all.hinged = new boolean[d];
        Arrays.fill(all.hinged, true);
        all.rule = new int[d];
        Arrays.fill(all.rule, -1);
        image = all.copy();
    }

    static boolean in(int x, int low, int high) {
        return low <= x && x <= high;
    }

    // ---- texts

    static List<Token> tokens(List<Integer> bytes) {
        List<Token> found = new ArrayList<>();
        int i = 0;
        while (i < bytes.size()) {
            int start = i;
            StringBuilder word = new StringBuilder();
            String c = "" + (char) (int) bytes.get(i);
            if (c.equals(" ") || c.equals("\n")) {
                i++;
                continue;
            }
            String kind = c.matches("[a-zA-Z]") ? "[a-zA-Z]" : c.matches("[0-9]") ? "[0-9]" : null;
            if (kind == null) {
                word.append(c);
                i++;
                if ((c.equals("<") || c.equals(">")) && i < bytes.size() && bytes.get(i) == '=') {
                    word.append('=');
                    i++;
                }
            } else {
                while (i < bytes.size() && ("" + (char) (int) bytes.get(i)).matches(kind)) {
                    word.append((char) (int) bytes.get(i));
                    i++;
                }
            }
            found.add(new Token(word.toString(), start));
        }
        found.add(new Token("", bytes.size()));
        return found;
    }

    static final class Parser {
        final List<Token> tokens;
        int at = 0;

        Parser(List<Token> tokens) {
            this.tokens = tokens;
        }

        Token now() {
            return tokens.get(at);
        }

        boolean is(String text) {
            return now().text.equals(text);
        }

        Fault fault(int number) {
            return new Fault(number, now().place);
        }

        void take(String text) throws Fault {
            if (!is(text)) {
                throw fault(1);
            }
            at++;
        }

        int number(int low, int high) throws Fault {
            if (!now().isNumber()) {
                throw fault(1);
            }
            if (!now().isNumberWithin(low, high)) {
                throw fault(2);
            }
            return tokens.get(at++).number();
        }

        Script script() throws Fault {
            Script script = new Script();
            while (!is("")) {
                if (!is("opens") && !is("knock") && !is("wait")) {
                    throw fault(1);
                }
                if (is("opens") && script.opens != null) {
                    throw fault(4);
                }
                if (script.clauses.size() == 24) {
                    throw fault(5);
                }
                if (is("opens")) {
                    at++;
                    script.opens = either();
                    script.clauses.add(new int[] {});
                } else if (is("knock")) {
                    at++;
                    int knocks = number(1, 7);
                    take("with");
                    script.clauses.add(new int[] {knocks, number(0, 5)});
                } else {
                    at++;
                    script.clauses.add(new int[] {number(0, 24)});
                }
                take(";");
            }
            return script;
        }

        Tree either() throws Fault {
            Tree left = both();
            while (is("or")) {
                at++;
                Tree a = left;
                Tree b = both();
                left = names -> a.value(names) + b.value(names) > 0 ? 1 : 0;
            }
            return left;
        }

        Tree both() throws Fault {
            Tree left = ask(0);
            while (is("and")) {
                at++;
                Tree a = left;
                Tree b = ask(0);
                left = names -> a.value(names) * b.value(names);
            }
            return left;
        }

        Tree ask(int around) throws Fault {
            if (is("not")) {
                if (around == 8) {
                    throw fault(3);
                }
                at++;
                Tree a = ask(around + 1);
                return names -> a.value(names) == 0 ? 1 : 0;
            }
            Tree a = sum(around);
            if (!COMPARED.contains(now().text)) {
                throw fault(1);
            }
            String how = tokens.get(at++).text;
            Tree b = sum(around);
            return names -> compare(how, a.value(names), b.value(names)) ? 1 : 0;
        }

        static boolean compare(String how, int a, int b) {
            switch (how) {
                case "<":
                    return a < b;
                case "<=":
                    return a <= b;
                case ">":
                    return a > b;
                case ">=":
                    return a >= b;
                case "=":
                    return a == b;
                default:
                    return a != b;
            }
        }

        static int cut(long x) {
            return (int) Math.max(-1000000L, Math.min(1000000L, x));
        }

        Tree sum(int around) throws Fault {
            Tree left = product(around);
            while (is("+") || is("-")) {
                int sign = is("+") ? 1 : -1;
                at++;
                Tree a = left;
                Tree b = product(around);
                left = names -> cut(a.value(names) + (long) sign * b.value(names));
            }
            return left;
        }

        Tree product(int around) throws Fault {
            Tree left = one(around);
            while (is("*") || is("/")) {
                boolean times = is("*");
                at++;
                Tree a = left;
                Tree b = one(around);
                left = names -> {
                    long x = a.value(names);
                    long y = b.value(names);
                    return cut(times ? x * y : y == 0 ? 0 : x / y);
                };
            }
            return left;
        }

        Tree one(int around) throws Fault {
            if (now().isNumber()) {
                int number = number(0, 9999);
                return names -> number;
            }
            if (NAMES.contains(now().text)) {
                String name = tokens.get(at++).text;
                return names -> names.get(name);
            }
            if (!is("(") && !is("-")) {
                throw fault(1);
            }
            if (around == 8) {
                throw fault(3);
            }
            if (is("-")) {
                at++;
                Tree a = one(around + 1);
                return names -> cut(-a.value(names));
            }
            at++;
            Tree a = sum(around + 1);
            take(")");
            return a;
        }
    }

    int text() {
        if (all.texts.size() == 4) {
            return -1;
        }
        List<Token> tokens = tokens(tape);
        tape.clear();
        try {
            all.texts.add(new Parser(tokens).script());
        } catch (Fault fault) {
            faultNumber = fault.number;
            faultPlace = fault.place;
            return -1;
        }
        faultNumber = 0;
        faultPlace = -1;
        return all.texts.size() - 1;
    }

    int fault(int what) {
        return what == 0 ? faultNumber : what == 1 ? faultPlace : -1;
    }

    int feed(int... words) {
        if (tape.size() + 20 > 300) {
            return -1;
        }
        for (int word : words) {
            for (int i = 3; i >= 0; i--) {
                tape.add(word >>> 8 * i & 255);
            }
        }
        return tape.size();
    }

    int end(int n) {
        if (!in(n, 0, tape.size())) {
            return -1;
        }
        while (tape.size() > n) {
            tape.remove(tape.size() - 1);
        }
        return n;
    }

    // ---- doors

    boolean rain(int hour, int r) {
        if (!in(hour, 0, 23) || !in(r, 0, 9)) {
            return false;
        }
        all.rain[hour] = r;
        return true;
    }

    boolean mood(int door, int m) {
        if (!in(door, 0, d - 1) || !in(m, 0, 9)) {
            return false;
        }
        all.mood[door] = m;
        return true;
    }

    int moods(int seed) {
        if (!in(seed, 0, 9999)) {
            return -1;
        }
        long x = seed * 5L + 8;
        for (int i = 0; i < d; i++) {
            all.mood[i] = (int) (x % 10);
            x = (x * 197 + 59) % 30113;
        }
        return all.mood[0];
    }

    boolean hinge(int door, boolean is) {
        if (!in(door, 0, d - 1)) {
            return false;
        }
        all.hinged[door] = is;
        return true;
    }

    boolean keep(int door, int text) {
        if (!in(door, 0, d - 1) || !in(text, -1, all.texts.size() - 1)) {
            return false;
        }
        all.rule[door] = text;
        return true;
    }

    boolean byRule(int rule, int door, int hour, int knocks, int gift, int waited, int load) {
        if (rule < 0 || all.texts.get(rule).opens == null) {
            return false;
        }
        Map<String, Integer> names = new HashMap<>();
        names.put("door", door);
        names.put("hour", hour);
        names.put("rain", all.rain[hour]);
        names.put("mood", all.mood[door]);
        names.put("gift", gift);
        names.put("knocks", knocks);
        names.put("waited", waited);
        names.put("load", load);
        return all.texts.get(rule).opens.value(names) != 0;
    }

    boolean goodKnock(int door, int hour, int knocks, int gift, int waited) {
        return in(door, 0, d - 1) && in(hour, 0, 23) && in(knocks, 1, 7) && in(gift, 0, 5) && in(waited, 0, 9);
    }

    boolean opens(int door, int hour, int knocks, int gift, int waited, int load) {
        return goodKnock(door, hour, knocks, gift, waited) && in(load, 0, 9)
                && (!all.hinged[door] || byRule(all.rule[door], door, hour, knocks, gift, waited, load));
    }

    boolean goodOne(int load, int keys, int hour, int purse) {
        return in(load, 0, 9) && in(keys, 0, (1 << d) - 1) && in(hour, 0, 23) && in(purse, 0, 99);
    }

    // ---- the traveller

    boolean sets(int load, int keys, int hour, int purse) {
        if (!goodOne(load, keys, hour, purse)) {
            return false;
        }
        all.load = load;
        all.keys = keys;
        all.hour = hour;
        all.purse = purse;
        all.door = 0;
        all.waited = 0;
        all.steps.clear();
        return true;
    }

    void step() {
        all.steps.add(new int[] {all.door, all.hour, all.waited, all.purse});
        if (all.steps.size() > 30) {
            all.steps.remove(0);
        }
    }

    int knock(int knocks, int gift) {
        if (all.door == d || !in(knocks, 1, 7) || !in(gift, 0, 5) || gift > all.purse) {
            return -1;
        }
        step();
        boolean open = opens(all.door, all.hour, knocks, gift, all.waited, all.load)
                || (all.keys & 1 << all.door) != 0;
        all.hour = (all.hour + 1) % 24;
        if (open) {
            all.door++;
            all.waited = 0;
            all.purse -= gift;
            return 1;
        }
        all.waited = Math.min(9, all.waited + 1);
        return 0;
    }

    int later(int hours) {
        if (all.door == d || !in(hours, 0, 24)) {
            return -1;
        }
        for (int i = 0; i < hours; i++) {
            step();
            all.hour = (all.hour + 1) % 24;
            all.waited = Math.min(9, all.waited + 1);
        }
        return all.hour;
    }

    int played(int text) {
        if (!in(text, 0, all.texts.size() - 1)) {
            return -2;
        }
        int number = 0;
        for (int[] clause : all.texts.get(text).clauses) {
            if (clause.length == 1 && later(clause[0]) == -1 || clause.length == 2 && knock(clause[0], clause[1]) == -1) {
                return number;
            }
            number++;
        }
        return -1;
    }

    int undo() {
        if (all.steps.isEmpty()) {
            return -1;
        }
        int[] was = all.steps.remove(all.steps.size() - 1);
        all.door = was[0];
        all.hour = was[1];
        all.waited = was[2];
        all.purse = was[3];
        return all.steps.size();
    }

    int traveller(int what) {
        int[] row = {all.door, all.hour, all.waited, all.purse, all.load, all.keys};
        return in(what, 0, 5) ? row[what] : -1;
    }

    // ---- ways

    /** A way: its acts; better ways come first. */
    static final class Way {
        final int gifts;
        final int[] acts;

        Way(int gifts, int[] acts) {
            this.gifts = gifts;
            this.acts = acts;
        }

        Way behind(int act, int gift) {
            int[] more = new int[acts.length + 1];
            more[0] = act;
            System.arraycopy(acts, 0, more, 1, acts.length);
            return new Way(gifts + gift, more);
        }

        boolean isBetter(Way other, boolean soonest) {
            if (other == null) {
                return true;
            }
            int byGifts = Integer.compare(gifts, other.gifts);
            int byHours = Integer.compare(acts.length, other.acts.length);
            int first = soonest ? byHours : byGifts;
            int second = soonest ? byGifts : byHours;
            if (first != 0 || second != 0) {
                return first < 0 || first == 0 && second < 0;
            }
            return Arrays.compare(acts, other.acts) < 0;
        }
    }

    /** One search: from each door, hour, waited and purse left the best way on. */
    final class Search {
        final int[] rule;
        final int load;
        final int keys;
        final int hour;
        final int n;
        final boolean soonest;
        final boolean memo;
        final Map<Integer, Way> known = new HashMap<>();
        final Map<Integer, Integer> leasts = new HashMap<>();

        Search(int[] rule, int load, int keys, int hour, int n, boolean soonest, boolean memo) {
            this.rule = rule;
            this.load = load;
            this.keys = keys;
            this.hour = hour;
            this.n = n;
            this.soonest = soonest;
            this.memo = memo;
        }

        /** The least gift by which these knocks open, or -1. */
        int least(int door, int at, int waited, int knocks) {
            if (!all.hinged[door] || (keys & 1 << door) != 0) {
                return 0;
            }
            int key = ((door * 24 + at) * 10 + waited) * 8 + knocks;
            Integer was = leasts.get(key);
            if (was == null) {
                was = -1;
                for (int gift = 5; gift >= 0; gift--) {
                    if (byRule(rule[door], door, at, knocks, gift, waited, load)) {
                        was = gift;
                    }
                }
                leasts.put(key, was);
            }
            return was;
        }

        Way from(int t, int door, int waited, int purse) {
            if (door == d) {
                return new Way(0, new int[0]);
            }
            if (t == n) {
                return null;
            }
            // More than 5 for each door can't be given.
            int left = Math.min(purse, 5 * (d - door));
            int key = ((t * 8 + door) * 10 + waited) * 41 + left;
            if (memo && known.containsKey(key)) {
                return known.get(key);
            }
            Way best = from(t + 1, door, Math.min(9, waited + 1), left);
            best = best == null ? null : best.behind(0, 0);
            for (int knocks = 1; knocks <= 7; knocks++) {
                int gift = least(door, (hour + t) % 24, waited, knocks);
                Way on = gift >= 0 && gift <= left ? from(t + 1, door + 1, 0, left - gift) : null;
                Way way = on == null ? null : on.behind(10 * knocks + gift, gift);
                if (way != null && way.isBetter(best, soonest)) {
                    best = way;
                }
            }
            known.put(key, best);
            return best;
        }
    }

    int way(int load, int keys, int hour, int n, int purse, boolean soonest, int what) {
        return way(load, keys, hour, n, purse, soonest, what, true);
    }

    int way(int load, int keys, int hour, int n, int purse, boolean soonest, int what, boolean memo) {
        if (!goodOne(load, keys, hour, purse) || !in(n, 1, 48)) {
            return -3;
        }
        Way way = new Search(all.rule, load, keys, hour, n, soonest, memo).from(0, 0, 0, purse);
        if (way == null) {
            return -3;
        }
        if (what == -1) {
            return way.gifts;
        }
        if (what == -2) {
            return way.acts.length;
        }
        return in(what, 0, way.acts.length - 1) ? way.acts[what] : -3;
    }

    // ---- guests

    int guest(int load, int keys, int hour, int purse) {
        if (!goodOne(load, keys, hour, purse) || all.guests.size() == 6) {
            return -1;
        }
        all.guests.add(new int[] {load, keys, hour, purse});
        return all.guests.size();
    }

    int clear() {
        int were = all.guests.size();
        all.guests.clear();
        return were;
    }

    int earned(int door, int[] rule) {
        int sum = 0;
        for (int[] g : all.guests) {
            Way way = new Search(rule, g[0], g[1], g[2], 24, false, true).from(0, 0, 0, g[3]);
            int at = 0;
            for (int act : way == null ? new int[0] : way.acts) {
                if (act > 0) {
                    sum += at == door ? act % 10 : 0;
                    at++;
                }
            }
        }
        return sum;
    }

    int earns(int door) {
        return in(door, 0, d - 1) ? earned(door, all.rule) : -1;
    }

    int even() {
        for (int door = 0; door < d; door++) {
            int now = earned(door, all.rule);
            for (int text = -1; text < all.texts.size(); text++) {
                int[] other = all.rule.clone();
                other[door] = text;
                if (earned(door, other) > now) {
                    return door;
                }
            }
        }
        return -1;
    }

    int rounds(int door) {
        if (!in(door, -1, d - 1)) {
            return -2;
        }
        int[] rule = all.rule.clone();
        for (int round = 0; round <= 20; round++) {
            int[] before = rule.clone();
            for (int i = 0; i < d; i++) {
                int own = rule[i];
                int[] earned = new int[all.texts.size() + 1];
                int most = -1;
                for (int text = -1; text < all.texts.size(); text++) {
                    rule[i] = text;
                    earned[text + 1] = earned(i, rule);
                    most = Math.max(most, earned[text + 1]);
                }
                int taken = own;
                for (int text = all.texts.size() - 1; text >= -1 && earned[own + 1] != most; text--) {
                    taken = earned[text + 1] == most ? text : taken;
                }
                rule[i] = taken;
            }
            if (Arrays.equals(rule, before)) {
                return door == -1 ? round : rule[door];
            }
        }
        return -2;
    }

    // ---- seen

    int seen(int door, int hour, int knocks, int gift, int waited, boolean opened) {
        if (!goodKnock(door, hour, knocks, gift, waited) || all.seen.size() == 20) {
            return -1;
        }
        all.seen.add(new int[] {door, hour, knocks, gift, waited, opened ? 1 : 0});
        return all.seen.size();
    }

    int kept(int door, int load) {
        if (!in(door, 0, d - 1) || !in(load, 0, 9)) {
            return -1;
        }
        int bits = 0;
        for (int text = -1; text < all.texts.size(); text++) {
            boolean so = true;
            for (int[] s : all.seen) {
                if (s[0] == door && byRule(text, door, s[1], s[2], s[3], s[4], load) != (s[5] == 1)) {
                    so = false;
                }
            }
            bits |= so ? text < 0 ? 16 : 1 << text : 0;
        }
        return bits;
    }

    // ---- the rest

    int image() {
        image = all.copy();
        return all.door;
    }

    int back() {
        all = image.copy();
        return all.door;
    }

    int about(int what) {
        if (what == 0) {
            return d;
        }
        if (what == 1) {
            return all.texts.size();
        }
        if (what == 2) {
            return all.steps.size();
        }
        if (what == 3) {
            return all.guests.size();
        }
        if (what == 4) {
            return all.seen.size();
        }
        if (what == 5) {
            return tape.size();
        }
        if (in(what, 10, 9 + d)) {
            return all.rule[what - 10];
        }
        if (in(what, 20, 19 + d)) {
            return all.mood[what - 20] + (all.hinged[what - 20] ? 0 : 10);
        }
        return in(what, 30, 53) ? all.rain[what - 30] : -2;
    }
}
