import java.util.Arrays;

/** A pass with doors one behind the other, each kept by a rule; DOC.md says what each method answers. */
public final class RoadOfDoors {
    public static final int NONE = -1;

    private static final int NOT_SO = -2;
    private static final int NO_WAY = -3;
    private static final int WHAT_HOURS = -2;

    private static final int MOST_DOORS = 8;
    private static final int HOURS = 24;
    private static final int MOST_RAIN = 9;
    private static final int MOST_MOOD = 9;
    private static final int MOST_KNOCKS = 7;
    private static final int MOST_GIFT = 5;
    private static final int MOST_LOAD = 9;
    private static final int MOST_WAITED = 9;
    private static final int MOST_PURSE = 99;
    private static final int MOST_SEED = 9999;
    private static final int MOST_STEPS = 30;
    private static final int MOST_GUESTS = 6;
    private static final int MOST_SEEN = 20;
    private static final int MOST_WAY_HOURS = 48;
    private static final int MOST_ROUNDS = 20;

    private static final int MOST_TEXTS = 4;
    private static final int MOST_BYTES = 300;
    private static final int BYTES_FED = 20;
    private static final int MOST_CLAUSES = 24;
    private static final int MOST_NESTED = 8;
    private static final int MOST_NUMBER = 9999;
    private static final int MOST_VALUE = 1000000;
    // 8 nested leave at most 9 sums with two operators and three values each, and one "or", "and" and comparison.
    private static final int MOST_PENDING = 64;

    // The names of the language; their numbers are places in a row of values, and bits of what a text looks at.
    private static final int DOOR = 0;
    private static final int HOUR = 1;
    private static final int RAIN = 2;
    private static final int MOOD = 3;
    private static final int GIFT = 4;
    private static final int KNOCKS = 5;
    private static final int WAITED = 6;
    private static final int LOAD = 7;
    private static final int NAMES = 8;
    private static final int BY_DOOR = 1 << DOOR | 1 << MOOD;
    private static final int BY_HOUR = 1 << HOUR | 1 << RAIN;
    private static final int BY_GIFT = 1 << GIFT;
    private static final int BY_KNOCKS = 1 << KNOCKS;
    private static final int BY_WAITED = 1 << WAITED;
    private static final int BY_LOAD = 1 << LOAD;

    // What a token is; an operator's kind is also its word in a compiled text (less than 0 there).
    private static final int NO_TOKEN = 0;
    private static final int END = 1;
    private static final int NUMBER = 2;
    private static final int NAME = 3;
    private static final int OPENS = 4;
    private static final int KNOCK = 5;
    private static final int WITH = 6;
    private static final int WAIT = 7;
    private static final int SEMICOLON = 8;
    private static final int OPEN = 9;
    private static final int CLOSE = 10;
    private static final int OR = 11;
    private static final int AND = 12;
    private static final int NOT = 13;
    private static final int LESS = 14;
    private static final int AT_MOST = 15;
    private static final int MORE = 16;
    private static final int AT_LEAST = 17;
    private static final int LIKE = 18;
    private static final int UNLIKE = 19;
    private static final int PLUS = 20;
    private static final int MINUS = 21;
    private static final int TIMES = 22;
    private static final int OVER = 23;
    private static final int NEGATE = 24;

    // What the reader looks for.
    private static final int AT_CLAUSE = 0;
    private static final int AT_KNOCKS = 1;
    private static final int AT_WITH = 2;
    private static final int AT_GIFT = 3;
    private static final int AT_HOURS = 4;
    private static final int AT_SEMICOLON = 5;
    private static final int AT_ONE = 6;
    private static final int BEHIND_ONE = 7;

    // How tightly an operator binds.
    private static final int LEVEL_OPEN = 0;
    private static final int LEVEL_OR = 1;
    private static final int LEVEL_AND = 2;
    private static final int LEVEL_NOT = 3;
    private static final int LEVEL_COMPARED = 4;
    private static final int LEVEL_SUM = 5;
    private static final int LEVEL_PRODUCT = 6;
    private static final int LEVEL_NEGATE = 7;

    // In a compiled text 0 .. 9999 are numbers, from here on names.
    private static final int FIRST_NAME = 10000;

    private static final int FAULT_PLACE = 1;
    private static final int FAULT_NUMBER = 2;
    private static final int FAULT_NESTED = 3;
    private static final int FAULT_OPENS = 4;
    private static final int FAULT_CLAUSES = 5;

    // A clause's knocks, where it has none.
    private static final int IS_WAIT = 0;
    private static final int IS_OPENS = -1;

    private static final int GUEST_ROW = 4;
    private static final int SEEN_ROW = 6;

    // The least by which a door opens is gift * 8 + knocks, in 6 bits; 0 is left for what is not learnt.
    private static final int LEAST_BITS = 6;
    private static final int LEAST_MASK = 63;
    private static final int KNOCKS_BITS = 3;
    private static final int KNOCKS_MASK = 7;
    private static final int SHUT = 8;
    private static final int FREE = 1;

    // What a way costs is gifts * 64 + hours: the cheapest is the lowest such number.
    private static final int HOURS_BITS = 6;
    private static final int HOURS_MASK = 63;
    private static final int NEVER = 1 << 20;
    private static final int COSTS_OF_DOOR = MOST_WAITED + 1;
    private static final int COSTS_OF_HOUR = (MOST_DOORS + 1) * COSTS_OF_DOOR;

    private final int doors;
    private final Road road;
    private final Road saved;
    private final Text[] texts;
    private final Tape tape;
    private final Reader reader;
    private final Rules rules;
    private final Ways ways;
    private final Earnings earnings;

    public RoadOfDoors(int doors) {
        int count = Math.max(1, Math.min(MOST_DOORS, doors));
        Text[] slots = new Text[MOST_TEXTS];
        for (int i = 0; i < MOST_TEXTS; i++) {
            slots[i] = new Text();
        }
        Road now = new Road();
        Tape empty = new Tape();
        Rules opening = new Rules(count, now, slots);
        Ways through = new Ways(count, now, opening);
        this.doors = count;
        this.road = now;
        this.saved = new Road();
        this.texts = slots;
        this.tape = empty;
        this.reader = new Reader(empty, slots[0]);
        this.rules = opening;
        this.ways = through;
        this.earnings = new Earnings(count, now, opening, through);
    }

    public boolean rain(int hour, int r) {
        if (!isHour(hour) || !within(r, 0, MOST_RAIN)) {
            return false;
        }
        road.rain[hour] = r;
        outlookChanged();
        return true;
    }

    public boolean mood(int door, int m) {
        if (!isDoor(door) || !within(m, 0, MOST_MOOD)) {
            return false;
        }
        road.mood[door] = m;
        outlookChanged();
        return true;
    }

    public int moods(int seed) {
        if (!within(seed, 0, MOST_SEED)) {
            return NONE;
        }
        int x = seed * 5 + 8;
        for (int door = 0; door < doors; door++) {
            road.mood[door] = x % 10;
            x = (x * 197 + 59) % 30113;
        }
        outlookChanged();
        return road.mood[0];
    }

    public boolean hinge(int door, boolean is) {
        if (!isDoor(door)) {
            return false;
        }
        road.unhinged[door] = !is;
        earnings.forget();
        return true;
    }

    public int feed(int a, int b, int c, int d, int e) {
        if (tape.length + BYTES_FED > MOST_BYTES) {
            return NONE;
        }
        tape.add(a);
        tape.add(b);
        tape.add(c);
        tape.add(d);
        tape.add(e);
        return tape.length;
    }

    public int end(int n) {
        if (!within(n, 0, tape.length)) {
            return NONE;
        }
        tape.length = n;
        return n;
    }

    public int text() {
        int number = road.told;
        if (!within(number, 0, MOST_TEXTS - 1)) {
            return NONE;
        }
        boolean good = reader.read(texts[number]);
        tape.length = 0;
        if (!good) {
            return NONE;
        }
        road.told = number + 1;
        outlookChanged();
        return number;
    }

    public int fault(int what) {
        if (what == 0) {
            return reader.fault;
        }
        return what == 1 ? reader.place : NONE;
    }

    public boolean keep(int door, int text) {
        if (!isDoor(door) || !within(text, NONE, road.told - 1)) {
            return false;
        }
        road.rule[door] = text;
        earnings.forget();
        return true;
    }

    public boolean opens(int door, int hour, int knocks, int gift, int waited, int load) {
        if (!isKnock(door, hour, knocks, gift, waited) || !within(load, 0, MOST_LOAD)) {
            return false;
        }
        return road.unhinged[door] || rules.opensBy(road.rule[door], door, hour, knocks, gift, waited, load);
    }

    public boolean sets(int load, int keys, int hour, int purse) {
        if (!isTraveller(load, keys, hour, purse)) {
            return false;
        }
        road.traveller.starts(load, keys, hour, purse);
        return true;
    }

    public int knock(int knocks, int gift) {
        if (!canKnock(knocks, gift)) {
            return NONE;
        }
        return knocked(knocks, gift) ? 1 : 0;
    }

    public int later(int hours) {
        if (!canWait(hours)) {
            return NONE;
        }
        waited(hours);
        return road.traveller.hour;
    }

    public int played(int text) {
        if (!within(text, 0, road.told - 1) || text >= MOST_TEXTS) {
            return NOT_SO;
        }
        Text script = texts[text];
        for (int i = 0; i < script.clauses && i < MOST_CLAUSES; i++) {
            if (!clauseDone(script.knocks[i], script.amounts[i])) {
                return i;
            }
        }
        return NONE;
    }

    public int undo() {
        return road.traveller.stepsBack() ? road.traveller.steps : NONE;
    }

    public int traveller(int what) {
        Traveller one = road.traveller;
        switch (what) {
            case 0:
                return one.door;
            case 1:
                return one.hour;
            case 2:
                return one.waited;
            case 3:
                return one.purse;
            case 4:
                return one.load;
            case 5:
                return one.keys;
            default:
                return NONE;
        }
    }

    public int way(int load, int keys, int hour, int n, int purse, boolean soonest, int what) {
        if (!isTraveller(load, keys, hour, purse) || !within(n, 1, MOST_WAY_HOURS)) {
            return NO_WAY;
        }
        for (int door = 0; door < doors; door++) {
            if (!road.unhinged[door] && !hasKey(keys, door)) {
                rules.learn(road.rule[door], door, load);
            }
        }
        boolean is = soonest
                ? ways.findSoonest(road.rule, load, keys, hour, n, purse)
                : ways.findCheapest(road.rule, load, keys, hour, n, purse);
        if (!is) {
            return NO_WAY;
        }
        if (what == NONE) {
            return ways.gifts;
        }
        if (what == WHAT_HOURS) {
            return ways.hours;
        }
        return within(what, 0, ways.hours - 1) && what < MOST_WAY_HOURS ? ways.acts[what] : NO_WAY;
    }

    public int guest(int load, int keys, int hour, int purse) {
        if (!isTraveller(load, keys, hour, purse) || road.guestCount >= MOST_GUESTS) {
            return NONE;
        }
        road.addGuest(load, keys, hour, purse);
        earnings.forget();
        return road.guestCount;
    }

    public int clear() {
        int were = road.guestCount;
        road.guestCount = 0;
        earnings.forget();
        return were;
    }

    public int earns(int door) {
        return isDoor(door) ? earnings.earnedNow(door) : NONE;
    }

    public int even() {
        return earnings.firstUneven();
    }

    public int rounds(int door) {
        if (door != NONE && !isDoor(door)) {
            return NOT_SO;
        }
        int changed = earnings.roundsChanged();
        return door == NONE || changed == NOT_SO ? changed : earnings.trial[door];
    }

    public int seen(int door, int hour, int knocks, int gift, int waited, boolean opened) {
        if (!isKnock(door, hour, knocks, gift, waited) || road.seenCount >= MOST_SEEN) {
            return NONE;
        }
        int at = road.seenCount * SEEN_ROW;
        road.seen[at] = door;
        road.seen[at + 1] = hour;
        road.seen[at + 2] = knocks;
        road.seen[at + 3] = gift;
        road.seen[at + 4] = waited;
        road.seen[at + 5] = opened ? 1 : 0;
        road.seenCount++;
        return road.seenCount;
    }

    public int kept(int door, int load) {
        if (!isDoor(door) || !within(load, 0, MOST_LOAD)) {
            return NONE;
        }
        int bits = agrees(NONE, door, load) ? 1 << MOST_TEXTS : 0;
        for (int text = 0; text < road.told; text++) {
            if (agrees(text, door, load)) {
                bits |= 1 << text;
            }
        }
        return bits;
    }

    public int image() {
        saved.becomes(road);
        return road.traveller.door;
    }

    public int back() {
        road.becomes(saved);
        outlookChanged();
        return road.traveller.door;
    }

    public int about(int what) {
        switch (what) {
            case 0:
                return doors;
            case 1:
                return road.told;
            case 2:
                return road.traveller.steps;
            case 3:
                return road.guestCount;
            case 4:
                return road.seenCount;
            case 5:
                return tape.length;
            default:
                return aboutPart(what);
        }
    }

    private int aboutPart(int what) {
        if (within(what, 10, 10 + doors - 1)) {
            return road.rule[what - 10];
        }
        if (within(what, 20, 20 + doors - 1)) {
            return road.mood[what - 20] + (road.unhinged[what - 20] ? 10 : 0);
        }
        return within(what, 30, 30 + HOURS - 1) ? road.rain[what - 30] : NOT_SO;
    }

    private static boolean within(int x, int low, int high) {
        return x >= low && x <= high;
    }

    private boolean isDoor(int door) {
        return within(door, 0, doors - 1);
    }

    private static boolean isHour(int hour) {
        return within(hour, 0, HOURS - 1);
    }

    private boolean isKnock(int door, int hour, int knocks, int gift, int waited) {
        return isDoor(door) && isHour(hour) && within(knocks, 1, MOST_KNOCKS)
                && within(gift, 0, MOST_GIFT) && within(waited, 0, MOST_WAITED);
    }

    private boolean isTraveller(int load, int keys, int hour, int purse) {
        return within(load, 0, MOST_LOAD) && within(keys, 0, (1 << doors) - 1)
                && isHour(hour) && within(purse, 0, MOST_PURSE);
    }

    /** What rules look at is another now: what is known of them no longer holds. */
    private void outlookChanged() {
        rules.forget();
        earnings.forget();
    }

    private boolean canKnock(int knocks, int gift) {
        return isDoor(road.traveller.door) && within(knocks, 1, MOST_KNOCKS)
                && within(gift, 0, MOST_GIFT) && gift <= road.traveller.purse;
    }

    private boolean knocked(int knocks, int gift) {
        Traveller one = road.traveller;
        int rule = road.rule[one.door];
        boolean open = road.unhinged[one.door] || hasKey(one.keys, one.door)
                || rules.opensBy(rule, one.door, one.hour, knocks, gift, one.waited, one.load);
        one.keepsStep();
        one.hourGoes();
        if (open) {
            one.purse -= gift;
            one.door++;
            one.waited = 0;
        } else {
            one.stays();
        }
        return open;
    }

    private boolean canWait(int hours) {
        return isDoor(road.traveller.door) && within(hours, 0, HOURS);
    }

    private void waited(int hours) {
        for (int i = 0; i < hours; i++) {
            road.traveller.keepsStep();
            road.traveller.hourGoes();
            road.traveller.stays();
        }
    }

    /** False: the clause can't be, and nothing of it is done. */
    private boolean clauseDone(int knocks, int amount) {
        if (knocks == IS_OPENS) {
            return true;
        }
        if (knocks == IS_WAIT) {
            boolean can = canWait(amount);
            waited(can ? amount : 0);
            return can;
        }
        if (!canKnock(knocks, amount)) {
            return false;
        }
        knocked(knocks, amount);
        return true;
    }

    /** Whether all that was seen at a door is so by a rule. */
    private boolean agrees(int rule, int door, int load) {
        int[] row = road.seen;
        for (int i = 0; i < road.seenCount && i < MOST_SEEN; i++) {
            int at = i * SEEN_ROW;
            if (row[at] == door) {
                boolean open = rules.opensBy(rule, door, row[at + 1], row[at + 2], row[at + 3], row[at + 4], load);
                if (open != (row[at + 5] == 1)) {
                    return false;
                }
            }
        }
        return true;
    }

    private static boolean hasKey(int keys, int door) {
        return (keys >> door & 1) == 1;
    }

    /** The traveller, and what he was ahead of each of his latest steps. */
    private static final class Traveller {
        int load;
        int keys;
        int purse;
        int hour;
        int waited;
        int door;
        int steps;
        final int[] before = new int[MOST_STEPS];

        void starts(int newLoad, int newKeys, int newHour, int newPurse) {
            load = newLoad;
            keys = newKeys;
            hour = newHour;
            purse = newPurse;
            waited = 0;
            door = 0;
            steps = 0;
        }

        void hourGoes() {
            hour = (hour + 1) % HOURS;
        }

        void stays() {
            waited = Math.min(MOST_WAITED, waited + 1);
        }

        void keepsStep() {
            if (steps >= MOST_STEPS) {
                System.arraycopy(before, 1, before, 0, MOST_STEPS - 1);
                steps = MOST_STEPS - 1;
            }
            before[steps] = ((door * HOURS + hour) * (MOST_WAITED + 1) + waited) * (MOST_PURSE + 1) + purse;
            steps++;
        }

        /** False: there is no step. */
        boolean stepsBack() {
            if (!within(steps, 1, MOST_STEPS)) {
                return false;
            }
            steps--;
            int was = before[steps];
            purse = was % (MOST_PURSE + 1);
            was /= MOST_PURSE + 1;
            waited = was % (MOST_WAITED + 1);
            was /= MOST_WAITED + 1;
            hour = was % HOURS;
            door = was / HOURS;
            return true;
        }

        void becomes(Traveller other) {
            load = other.load;
            keys = other.keys;
            purse = other.purse;
            hour = other.hour;
            waited = other.waited;
            door = other.door;
            steps = other.steps;
            System.arraycopy(other.before, 0, before, 0, MOST_STEPS);
        }
    }

    /** All that an image holds. Texts are only ever added behind those of the image: their count is enough. */
    private static final class Road {
        final int[] rain = new int[HOURS];
        final int[] mood = new int[MOST_DOORS];
        final int[] rule = new int[MOST_DOORS];
        final boolean[] unhinged = new boolean[MOST_DOORS];
        final int[] guests = new int[MOST_GUESTS * GUEST_ROW];
        final int[] seen = new int[MOST_SEEN * SEEN_ROW];
        final Traveller traveller = new Traveller();
        int told;
        int guestCount;
        int seenCount;

        Road() {
            for (int door = 0; door < MOST_DOORS; door++) {
                rule[door] = NONE;
            }
        }

        void addGuest(int load, int keys, int hour, int purse) {
            if (!within(guestCount, 0, MOST_GUESTS - 1)) {
                return;
            }
            int at = guestCount * GUEST_ROW;
            guests[at] = load;
            guests[at + 1] = keys;
            guests[at + 2] = hour;
            guests[at + 3] = purse;
            guestCount++;
        }

        void becomes(Road other) {
            System.arraycopy(other.rain, 0, rain, 0, HOURS);
            System.arraycopy(other.mood, 0, mood, 0, MOST_DOORS);
            System.arraycopy(other.rule, 0, rule, 0, MOST_DOORS);
            System.arraycopy(other.guests, 0, guests, 0, MOST_GUESTS * GUEST_ROW);
            System.arraycopy(other.seen, 0, seen, 0, MOST_SEEN * SEEN_ROW);
            for (int door = 0; door < MOST_DOORS; door++) {
                unhinged[door] = other.unhinged[door];
            }
            traveller.becomes(other.traveller);
            told = other.told;
            guestCount = other.guestCount;
            seenCount = other.seenCount;
        }
    }

    /** A text as it was read: its clauses, and its opens as words, each operator behind what it joins. */
    private static final class Text {
        final int[] words = new int[MOST_BYTES];
        final int[] knocks = new int[MOST_CLAUSES];
        final int[] amounts = new int[MOST_CLAUSES];
        int length;
        int clauses;
        int looksAt;
        boolean canOpen;

        void empties() {
            length = 0;
            clauses = 0;
            looksAt = 0;
            canOpen = false;
        }

        void addWord(int word) {
            if (length >= 0 && length < MOST_BYTES) {
                words[length] = word;
                length++;
            }
        }

        void addName(int name) {
            addWord(FIRST_NAME + name);
            looksAt |= 1 << name;
        }

        void addClause(int knocking) {
            if (clauses >= 0 && clauses < MOST_CLAUSES) {
                knocks[clauses] = knocking;
                amounts[clauses] = 0;
                clauses++;
            }
        }

        void setKnocks(int knocking) {
            if (within(clauses, 1, MOST_CLAUSES)) {
                knocks[clauses - 1] = knocking;
            }
        }

        void setAmount(int amount) {
            if (within(clauses, 1, MOST_CLAUSES)) {
                amounts[clauses - 1] = amount;
            }
        }
    }

    /** The bytes fed, and the token that stands at start in them. */
    private static final class Tape {
        final byte[] bytes = new byte[MOST_BYTES];
        int length;
        int kind;
        int number;
        int start;
        private int after;

        void add(int four) {
            for (int shift = 24; shift >= 0; shift -= 8) {
                if (length >= 0 && length < MOST_BYTES) {
                    bytes[length] = (byte) (four >>> shift);
                    length++;
                }
            }
        }

        void rewinds() {
            after = 0;
        }

        void nextToken() {
            int at = after;
            while (at < length && isBlank(byteAt(at))) {
                at++;
            }
            start = at;
            after = Math.min(length, at + 1);
            int first = byteAt(start);
            if (first < 0) {
                kind = END;
            } else if (isLetter(first)) {
                readWord();
            } else if (isDigit(first)) {
                readNumber();
            } else {
                kind = signAt(first, byteAt(after) == '=');
                after += isTwoSigned(kind) ? 1 : 0;
            }
        }

        private int byteAt(int at) {
            return at >= 0 && at < length && at < MOST_BYTES ? bytes[at] & 255 : NONE;
        }

        private static boolean isBlank(int sign) {
            return sign == 32 || sign == 10;
        }

        private static boolean isLetter(int sign) {
            return within(sign, 'a', 'z') || within(sign, 'A', 'Z');
        }

        private static boolean isDigit(int sign) {
            return within(sign, '0', '9');
        }

        private static boolean isTwoSigned(int kind) {
            return kind == AT_MOST || kind == AT_LEAST;
        }

        private static int signAt(int first, boolean likeBehind) {
            switch (first) {
                case '<':
                    return likeBehind ? AT_MOST : LESS;
                case '>':
                    return likeBehind ? AT_LEAST : MORE;
                case '=':
                    return LIKE;
                case '#':
                    return UNLIKE;
                case '+':
                    return PLUS;
                case '-':
                    return MINUS;
                case '*':
                    return TIMES;
                case '/':
                    return OVER;
                case '(':
                    return OPEN;
                case ')':
                    return CLOSE;
                case ';':
                    return SEMICOLON;
                default:
                    return NO_TOKEN;
            }
        }

        private void readNumber() {
            int at = start;
            int value = 0;
            while (at < length && isDigit(byteAt(at))) {
                // One above the most is enough to know: the value can't run over.
                value = Math.min(MOST_NUMBER + 1, value * 10 + byteAt(at) - '0');
                at++;
            }
            after = at;
            number = value;
            kind = NUMBER;
        }

        private void readWord() {
            int at = start;
            while (at < length && isLetter(byteAt(at))) {
                at++;
            }
            after = at;
            number = nameSpelt();
            kind = number == NONE ? wordSpelt() : NAME;
        }

        private boolean spells(String word) {
            if (after - start != word.length()) {
                return false;
            }
            for (int i = 0; i < word.length(); i++) {
                if (byteAt(start + i) != word.charAt(i)) {
                    return false;
                }
            }
            return true;
        }

        private int nameSpelt() {
            if (spells("door")) {
                return DOOR;
            }
            if (spells("hour")) {
                return HOUR;
            }
            if (spells("rain")) {
                return RAIN;
            }
            if (spells("mood")) {
                return MOOD;
            }
            if (spells("gift")) {
                return GIFT;
            }
            if (spells("knocks")) {
                return KNOCKS;
            }
            if (spells("waited")) {
                return WAITED;
            }
            return spells("load") ? LOAD : NONE;
        }

        private int wordSpelt() {
            if (spells("opens")) {
                return OPENS;
            }
            if (spells("knock")) {
                return KNOCK;
            }
            if (spells("with")) {
                return WITH;
            }
            if (spells("wait")) {
                return WAIT;
            }
            if (spells("or")) {
                return OR;
            }
            if (spells("and")) {
                return AND;
            }
            return spells("not") ? NOT : NO_TOKEN;
        }
    }

    /** Reads the tape token by token into a text; operators wait in a pile until what they join is read. */
    private static final class Reader {
        int fault = NONE;
        int place = NONE;
        private final Tape tape;
        private final int[] pile = new int[MOST_PENDING];
        private Text text;
        private int state;
        private int height;
        private int nested;
        private int unclosed;
        private boolean compared;

        Reader(Tape tape, Text first) {
            this.tape = tape;
            this.text = first;
        }

        /** False: it has a fault. */
        boolean read(Text into) {
            fault = 0;
            place = NONE;
            state = AT_CLAUSE;
            text = into;
            text.empties();
            tape.rewinds();
            boolean ended = false;
            for (int i = 0; i <= MOST_BYTES && fault == 0 && !ended; i++) {
                tape.nextToken();
                ended = state == AT_CLAUSE && tape.kind == END;
                if (!ended) {
                    take(tape.kind);
                }
            }
            return fault == 0;
        }

        private void refuse(int number) {
            fault = number;
            place = tape.start;
        }

        private void take(int kind) {
            switch (state) {
                case AT_CLAUSE:
                    takeClause(kind);
                    break;
                case AT_KNOCKS:
                    takeNumber(1, MOST_KNOCKS, AT_WITH);
                    text.setKnocks(tape.number);
                    break;
                case AT_WITH:
                    takeSign(WITH, AT_GIFT);
                    break;
                case AT_GIFT:
                    takeNumber(0, MOST_GIFT, AT_SEMICOLON);
                    text.setAmount(tape.number);
                    break;
                case AT_HOURS:
                    takeNumber(0, HOURS, AT_SEMICOLON);
                    text.setAmount(tape.number);
                    break;
                case AT_SEMICOLON:
                    takeSign(SEMICOLON, AT_CLAUSE);
                    break;
                case AT_ONE:
                    takeOne(kind);
                    break;
                default:
                    takeBehindOne(kind);
                    break;
            }
        }

        private void takeClause(int kind) {
            if (kind != OPENS && kind != KNOCK && kind != WAIT) {
                refuse(FAULT_PLACE);
            } else if (kind == OPENS && text.canOpen) {
                refuse(FAULT_OPENS);
            } else if (text.clauses >= MOST_CLAUSES) {
                refuse(FAULT_CLAUSES);
            } else if (kind == OPENS) {
                text.addClause(IS_OPENS);
                text.canOpen = true;
                height = 0;
                nested = 0;
                unclosed = 0;
                compared = false;
                state = AT_ONE;
            } else {
                text.addClause(IS_WAIT);
                state = kind == KNOCK ? AT_KNOCKS : AT_HOURS;
            }
        }

        private void takeNumber(int low, int high, int then) {
            if (tape.kind != NUMBER) {
                refuse(FAULT_PLACE);
            } else if (!within(tape.number, low, high)) {
                refuse(FAULT_NUMBER);
            } else {
                state = then;
            }
        }

        private void takeSign(int kind, int then) {
            if (tape.kind != kind) {
                refuse(FAULT_PLACE);
            } else {
                state = then;
            }
        }

        private void takeOne(int kind) {
            if (kind == OPEN) {
                nest(OPEN);
            } else if (kind == MINUS) {
                nest(NEGATE);
            } else if (kind == NOT && atAsk()) {
                nest(NOT);
            } else if (kind == NAME) {
                text.addName(tape.number);
                endOne();
            } else if (kind != NUMBER) {
                refuse(FAULT_PLACE);
            } else if (tape.number > MOST_NUMBER) {
                refuse(FAULT_NUMBER);
            } else {
                text.addWord(tape.number);
                endOne();
            }
        }

        /** Whether an ASK starts here: nothing of a sum is before it. */
        private boolean atAsk() {
            int above = height > 0 ? pileAt(height - 1) : OR;
            return above == OR || above == AND || above == NOT;
        }

        private void nest(int kind) {
            if (nested >= MOST_NESTED) {
                refuse(FAULT_NESTED);
                return;
            }
            nested++;
            unclosed += kind == OPEN ? 1 : 0;
            put(kind);
        }

        private void endOne() {
            joinDownTo(LEVEL_NEGATE);
            state = BEHIND_ONE;
        }

        private void takeBehindOne(int kind) {
            int level = levelOf(kind);
            boolean asked = compared && unclosed == 0;
            if (level == LEVEL_SUM || level == LEVEL_PRODUCT) {
                join(kind, level);
            } else if (kind == CLOSE && unclosed > 0) {
                close();
            } else if (level == LEVEL_COMPARED && !compared && unclosed == 0) {
                join(kind, level);
                compared = true;
            } else if ((level == LEVEL_OR || level == LEVEL_AND) && asked) {
                join(kind, level);
                compared = false;
            } else if (kind == SEMICOLON && asked) {
                joinDownTo(LEVEL_OR);
                state = AT_CLAUSE;
            } else {
                refuse(FAULT_PLACE);
            }
        }

        private void join(int kind, int level) {
            joinDownTo(level);
            put(kind);
            state = AT_ONE;
        }

        private void close() {
            joinDownTo(LEVEL_SUM);
            height--;
            nested--;
            unclosed--;
            joinDownTo(LEVEL_NEGATE);
        }

        private void put(int kind) {
            if (height >= 0 && height < MOST_PENDING) {
                pile[height] = kind;
                height++;
            }
        }

        private int pileAt(int at) {
            return at >= 0 && at < MOST_PENDING ? pile[at] : OPEN;
        }

        /** What binds at least as tightly joins what is read. */
        private void joinDownTo(int level) {
            for (int at = height - 1; at >= 0 && levelOf(pileAt(at)) >= level; at--) {
                int kind = pileAt(at);
                text.addWord(-kind);
                nested -= kind == NOT || kind == NEGATE ? 1 : 0;
                height = at;
            }
        }

        private static int levelOf(int kind) {
            switch (kind) {
                case OR:
                    return LEVEL_OR;
                case AND:
                    return LEVEL_AND;
                case NOT:
                    return LEVEL_NOT;
                case LESS:
                case AT_MOST:
                case MORE:
                case AT_LEAST:
                case LIKE:
                case UNLIKE:
                    return LEVEL_COMPARED;
                case PLUS:
                case MINUS:
                    return LEVEL_SUM;
                case TIMES:
                case OVER:
                    return LEVEL_PRODUCT;
                case NEGATE:
                    return LEVEL_NEGATE;
                default:
                    return LEVEL_OPEN;
            }
        }
    }

    /** By what rules open; the least by which each does is learnt once, as ways ask for it again and again. */
    private static final class Rules {
        private final int doors;
        private final Road road;
        private final Text[] texts;
        private final int[] names = new int[NAMES];
        private final int[] values = new int[MOST_PENDING];
        // For each rule, door, load and hour: the least at each waited, in 6 bits each; 0 is not learnt.
        private final long[] leasts;
        private boolean stale;

        Rules(int doors, Road road, Text[] texts) {
            this.doors = doors;
            this.road = road;
            this.texts = texts;
            this.leasts = new long[MOST_TEXTS * doors * (MOST_LOAD + 1) * HOURS];
        }

        void forget() {
            stale = true;
        }

        boolean isOpening(int rule) {
            return rule >= 0 && rule < MOST_TEXTS && rule < road.told && texts[rule].canOpen;
        }

        boolean looksAtWaited(int rule) {
            return rule >= 0 && rule < MOST_TEXTS && (texts[rule].looksAt & BY_WAITED) != 0;
        }

        boolean opensBy(int rule, int door, int hour, int knocks, int gift, int waited, int load) {
            if (!isOpening(rule)) {
                return false;
            }
            face(door, hour, load);
            names[WAITED] = waited;
            names[KNOCKS] = knocks;
            names[GIFT] = gift;
            return holds(texts[rule]);
        }

        /** Where the hours of a rule at a door begin; what a text doesn't look at needs no place of its own. */
        int placeOf(int rule, int door, int load) {
            if (rule < 0 || rule >= MOST_TEXTS) {
                return NONE;
            }
            int looksAt = texts[rule].looksAt;
            int ofDoor = (looksAt & BY_DOOR) != 0 ? door : 0;
            int ofLoad = (looksAt & BY_LOAD) != 0 ? load : 0;
            return ((rule * doors + ofDoor) * (MOST_LOAD + 1) + ofLoad) * HOURS;
        }

        /** What has been learnt: at each waited gift * 8 + knocks, the least gift, then the fewest knocks, or SHUT. */
        long leastsAt(int place, int hour) {
            int at = place + hour;
            return place >= 0 && hour >= 0 && at < leasts.length ? leasts[at] : FREE;
        }

        void learn(int rule, int door, int load) {
            if (stale) {
                Arrays.fill(leasts, 0L);
                stale = false;
            }
            int place = isOpening(rule) ? placeOf(rule, door, load) : NONE;
            if (place < 0 || place > leasts.length - HOURS || leasts[place] != 0L) {
                return;
            }
            Text text = texts[rule];
            boolean byHour = (text.looksAt & BY_HOUR) != 0;
            for (int hour = 0; hour < HOURS; hour++) {
                if (hour == 0 || byHour) {
                    face(door, hour, load);
                    leasts[place + hour] = searched(text);
                } else {
                    leasts[place + hour] = leasts[place];
                }
            }
        }

        private long searched(Text text) {
            long found = 0L;
            int mostWaited = (text.looksAt & BY_WAITED) != 0 ? MOST_WAITED : 0;
            int mostGift = (text.looksAt & BY_GIFT) != 0 ? MOST_GIFT : 0;
            int mostKnocks = (text.looksAt & BY_KNOCKS) != 0 ? MOST_KNOCKS : 1;
            for (int waited = 0; waited <= mostWaited; waited++) {
                names[WAITED] = waited;
                int least = SHUT;
                for (int gift = 0; gift <= mostGift && least == SHUT; gift++) {
                    names[GIFT] = gift;
                    for (int knocks = 1; knocks <= mostKnocks && least == SHUT; knocks++) {
                        names[KNOCKS] = knocks;
                        least = holds(text) ? (gift << KNOCKS_BITS) + knocks : SHUT;
                    }
                }
                found |= (long) least << waited * LEAST_BITS;
            }
            return found;
        }

        private void face(int door, int hour, int load) {
            names[DOOR] = door;
            names[HOUR] = hour;
            names[RAIN] = hour >= 0 && hour < HOURS ? road.rain[hour] : 0;
            names[MOOD] = door >= 0 && door < MOST_DOORS ? road.mood[door] : 0;
            names[LOAD] = load;
        }

        private boolean holds(Text text) {
            int top = 0;
            for (int i = 0; i < text.length && i < MOST_BYTES; i++) {
                int word = text.words[i];
                if (word >= 0) {
                    if (top < MOST_PENDING) {
                        int name = word - FIRST_NAME;
                        values[top] = name >= 0 && name < NAMES ? names[name] : word;
                        top++;
                    }
                } else if (top > 0 && word == -NOT) {
                    values[top - 1] = 1 - values[top - 1];
                } else if (top > 0 && word == -NEGATE) {
                    values[top - 1] = -values[top - 1];
                } else if (top > 1) {
                    top--;
                    values[top - 1] = joined(-word, values[top - 1], values[top]);
                }
            }
            return top > 0 && values[0] == 1;
        }

        private static int joined(int kind, int a, int b) {
            long value;
            switch (kind) {
                case OR:
                    return a | b;
                case AND:
                    return a & b;
                case LESS:
                    return a < b ? 1 : 0;
                case AT_MOST:
                    return a <= b ? 1 : 0;
                case MORE:
                    return a > b ? 1 : 0;
                case AT_LEAST:
                    return a >= b ? 1 : 0;
                case LIKE:
                    return a == b ? 1 : 0;
                case UNLIKE:
                    return a != b ? 1 : 0;
                case PLUS:
                    value = (long) a + b;
                    break;
                case MINUS:
                    value = (long) a - b;
                    break;
                case TIMES:
                    value = (long) a * b;
                    break;
                default:
                    value = b == 0 ? 0L : a / b;
                    break;
            }
            if (value > MOST_VALUE) {
                return MOST_VALUE;
            }
            return value < -MOST_VALUE ? -MOST_VALUE : (int) value;
        }
    }

    /** The way through, by what has been learnt of the rules; found from its last hour back to its first. */
    private static final class Ways {
        int gifts;
        int hours;
        final int[] acts = new int[MOST_WAY_HOURS];
        final int[] given = new int[MOST_DOORS];
        private final int doors;
        private final Road road;
        private final Rules rules;
        // Of two hours by turns: what the cheapest way from each door and waited on costs in all; last, of who is through.
        private final int[] costs = new int[2 * COSTS_OF_HOUR];
        // For each hour and door: bits of the waited at which to knock.
        private final int[] goes = new int[MOST_WAY_HOURS * MOST_DOORS];
        // Where what has been learnt of each door's rule begins; NONE: it is free.
        private final int[] places = new int[MOST_DOORS];
        // The highest waited that can make a difference at each door.
        private final int[] mostWaited = new int[MOST_DOORS];
        private int firstHour;

        Ways(int doors, Road road, Rules rules) {
            this.doors = doors;
            this.road = road;
            this.rules = rules;
        }

        /** False: there is no way. */
        boolean findCheapest(int[] rule, int load, int keys, int hour, int n, int purse) {
            if (!canPass(rule, load, keys)) {
                return false;
            }
            firstHour = hour;
            int cost = cheapest(n);
            boolean is = cost < NEVER && cost >> HOURS_BITS <= purse;
            if (is) {
                walk(cost);
            }
            return is;
        }

        /** It is the cheapest within the fewest hours in which the cheapest can be paid. */
        boolean findSoonest(int[] rule, int load, int keys, int hour, int n, int purse) {
            if (!findCheapest(rule, load, keys, hour, n, purse)) {
                return false;
            }
            int low = doors;
            int high = n;
            for (int i = 0; i < MOST_WAY_HOURS && low < high; i++) {
                int middle = (low + high) / 2;
                if (cheapest(middle) >> HOURS_BITS <= purse) {
                    high = middle;
                } else {
                    low = middle + 1;
                }
            }
            walk(cheapest(high));
            return true;
        }

        private boolean canPass(int[] rule, int load, int keys) {
            for (int door = 0; door < doors && door < rule.length; door++) {
                boolean free = road.unhinged[door] || hasKey(keys, door);
                if (!free && !rules.isOpening(rule[door])) {
                    return false;
                }
                places[door] = free ? NONE : rules.placeOf(rule[door], door, load);
                mostWaited[door] = !free && rules.looksAtWaited(rule[door]) ? MOST_WAITED : 0;
            }
            return true;
        }

        private int cheapest(int n) {
            int last = (n & 1) * COSTS_OF_HOUR;
            Arrays.fill(costs, last, last + COSTS_OF_HOUR, NEVER);
            costs[last + doors * COSTS_OF_DOOR] = n;
            for (int t = Math.min(n, MOST_WAY_HOURS) - 1; t >= 0; t--) {
                costs[(t & 1) * COSTS_OF_HOUR + doors * COSTS_OF_DOOR] = t;
                for (int door = 0; door < doors && door <= t; door++) {
                    choose(t, door, rules.leastsAt(places[door], (firstHour + t) % HOURS));
                }
            }
            return costs[0];
        }

        private void choose(int t, int door, long leasts) {
            int here = (t & 1) * COSTS_OF_HOUR + door * COSTS_OF_DOOR;
            int next = ((t + 1) & 1) * COSTS_OF_HOUR + door * COSTS_OF_DOOR;
            int behind = costs[next + COSTS_OF_DOOR];
            int most = mostWaited[door];
            int bits = 0;
            for (int waited = 0; waited <= most && waited <= t - door; waited++) {
                int least = (int) (leasts >> waited * LEAST_BITS) & LEAST_MASK;
                int waiting = costs[next + (waited < most ? waited + 1 : most)];
                int knocking = NEVER;
                if ((least & KNOCKS_MASK) != 0 && behind < NEVER) {
                    knocking = behind + (least >> KNOCKS_BITS << HOURS_BITS);
                }
                if (knocking < waiting) {
                    bits |= 1 << waited;
                }
                costs[here + waited] = knocking < waiting ? knocking : waiting;
            }
            goes[t * MOST_DOORS + door] = bits;
        }

        private void walk(int cost) {
            gifts = cost >> HOURS_BITS;
            hours = cost & HOURS_MASK;
            Arrays.fill(given, 0);
            int door = 0;
            int waited = 0;
            for (int t = 0; t < hours && t < MOST_WAY_HOURS && door < doors; t++) {
                if ((goes[t * MOST_DOORS + door] >> waited & 1) == 1) {
                    long leasts = rules.leastsAt(places[door], (firstHour + t) % HOURS);
                    int least = (int) (leasts >> waited * LEAST_BITS) & LEAST_MASK;
                    given[door] = least >> KNOCKS_BITS;
                    acts[t] = 10 * (least & KNOCKS_MASK) + given[door];
                    door++;
                    waited = 0;
                } else {
                    acts[t] = 0;
                    waited = Math.min(mostWaited[door], waited + 1);
                }
            }
        }
    }

    /** What doors earn by the guests, as rules are or as they are tried. */
    private static final class Earnings {
        final int[] trial = new int[MOST_DOORS];
        private final int doors;
        private final Road road;
        private final Rules rules;
        private final Ways ways;
        private final int[] past = new int[MOST_ROUNDS + 1];
        private int changed;
        private boolean settled;

        Earnings(int doors, Road road, Rules rules, Ways ways) {
            this.doors = doors;
            this.road = road;
            this.rules = rules;
            this.ways = ways;
        }

        /** What the rounds led to no longer holds. */
        void forget() {
            settled = false;
        }

        int earnedNow(int door) {
            startTrial(false);
            return earned(door);
        }

        int firstUneven() {
            startTrial(true);
            for (int door = 0; door < doors; door++) {
                if (bestRule(door) != trial[door]) {
                    return door;
                }
            }
            return NONE;
        }

        /** How many rounds changed something, trial being the rules then; NOT_SO: they don't end. */
        int roundsChanged() {
            if (settled) {
                return changed;
            }
            startTrial(true);
            changed = NOT_SO;
            boolean again = true;
            for (int round = 0; round <= MOST_ROUNDS && again; round++) {
                again = false;
                past[round] = trialNumber();
                if (!isPast(round)) {
                    for (int door = 0; door < doors; door++) {
                        int best = bestRule(door);
                        again |= best != trial[door];
                        trial[door] = best;
                    }
                    changed = again ? NOT_SO : round;
                }
            }
            settled = true;
            return changed;
        }

        /** Learns what the trial will ask for: other rules than those the doors have only if there are changes. */
        private void startTrial(boolean changes) {
            settled = false;
            System.arraycopy(road.rule, 0, trial, 0, MOST_DOORS);
            for (int i = 0; i < road.guestCount && i < MOST_GUESTS; i++) {
                for (int door = 0; door < doors; door++) {
                    boolean shut = !road.unhinged[door] && !hasKey(road.guests[i * GUEST_ROW + 1], door);
                    for (int rule = 0; rule < road.told; rule++) {
                        if (shut && (changes || rule == trial[door])) {
                            rules.learn(rule, door, road.guests[i * GUEST_ROW]);
                        }
                    }
                }
            }
        }

        private int trialNumber() {
            int number = 0;
            for (int door = 0; door < doors; door++) {
                number = number * (MOST_TEXTS + 1) + trial[door] + 1;
            }
            return number;
        }

        /** Rules that were before come again and again: no need to go round to the last. */
        private boolean isPast(int round) {
            for (int i = 0; i < round; i++) {
                if (past[i] == past[round]) {
                    return true;
                }
            }
            return false;
        }

        private int bestRule(int door) {
            int own = trial[door];
            int best = own;
            int most = earned(door);
            for (int rule = NONE; rule < road.told; rule++) {
                trial[door] = rule;
                int earned = rule == own ? 0 : earned(door);
                if (earned > most) {
                    most = earned;
                    best = rule;
                }
            }
            trial[door] = own;
            return best;
        }

        /** By the rules tried. Who need not give, or can't come through, gives nothing. */
        private int earned(int door) {
            int sum = 0;
            if (road.unhinged[door] || !rules.isOpening(trial[door])) {
                return sum;
            }
            int[] row = road.guests;
            for (int i = 0; i < road.guestCount && i < MOST_GUESTS; i++) {
                int at = i * GUEST_ROW;
                int keys = row[at + 1];
                if (!hasKey(keys, door)
                        && ways.findCheapest(trial, row[at], keys, row[at + 2], HOURS, row[at + 3])) {
                    sum += ways.given[door];
                }
            }
            return sum;
        }
    }
}
