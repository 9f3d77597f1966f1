/** The edges of the tape, texts, faults, values, rules told and scripts played, sentence by sentence. */
public final class TextEdgesTest {
    private static final int NONE = RoadOfDoors.NONE;
    private static final String WAITS = "wait1;";
    private static final int GOOD = 0;

    private final Edges t = new Edges();

    public static void main(String[] args) {
        TextEdgesTest all = new TextEdgesTest();
        all.bytesFed();
        all.bytesThatDoNotCome();
        all.firstBytesAlone();
        all.fourTexts();
        all.tapeOfTexts();
        all.tapeOfAFifth();
        all.longestTexts();
        all.bytesOfTokens();
        all.longestTokens();
        all.wordsOfTokens();
        all.tokensWhereTheyCanStand();
        all.clausesAtMost();
        all.namesSeen();
        all.likeAndUnlike();
        all.fromTheLeft();
        all.cutTowardsNone();
        all.cutAtAMillion();
        all.bothSides();
        all.faultsInTheirOrder();
        all.faultsOfNumbers();
        all.faultsOfNesting();
        all.faultsOfOpens();
        all.faultsOfClauses();
        all.readAnew();
        all.faultAsked();
        all.rulesKept();
        all.clausesPlayed();
        all.clausesThatCannotBe();
        all.playedForOthers();
        all.t.end();
    }

    // ---- the tape

    private void bytesFed() {
        t.says("Twenty bytes come behind the tape, the highest of a first: how many it has.");
        String blank = " ".repeat(40);
        for (int i = 0; i < 40; i++) {
            RoadOfDoors x = new RoadOfDoors(1);
            String text = blank.substring(0, i) + "!" + blank.substring(i + 1);
            for (int n = 0; n < 2; n++) {
                int[] w = Checks.words(text, 20 * n);
                t.due("feed", x.feed(w[0], w[1], w[2], w[3], w[4]), 20 * (n + 1));
            }
            t.due("text", x.text(), NONE);
            t.due("byte " + i, x.fault(1), i);
        }
        RoadOfDoors x = new RoadOfDoors(1);
        for (int i = 1; i <= 15; i++) {
            t.due("feed " + i, x.feed(-1, Integer.MIN_VALUE, 0, 1, Integer.MAX_VALUE), 20 * i);
            t.due("about(5)", x.about(5), 20 * i);
        }
    }

    private void bytesThatDoNotCome() {
        t.says("NONE, and none come, if there would be more than 300.");
        for (int n = 279; n <= 300; n++) {
            RoadOfDoors x = new RoadOfDoors(1);
            Checks.put(x, "wait 1;" + " ".repeat(293));
            x.end(n);
            boolean come = n <= 280;
            t.due("feed behind " + n, x.feed(-1, -1, -1, -1, -1), come ? n + 20 : NONE);
            t.due("feed again", x.feed(-1, -1, -1, -1, -1), NONE);
            t.due("about(5)", x.about(5), come ? n + 20 : n);
            t.due("text", x.text(), come ? NONE : 0);
            t.due("the first that came", x.fault(1), come ? n : NONE);
            t.due("feed to the empty tape", x.feed(-1, -1, -1, -1, -1), 20);
        }
    }

    private void firstBytesAlone() {
        t.says("The tape has its first n bytes alone: n. NONE, and nothing is done, if it has not so many, or n is below 0.");
        RoadOfDoors x = new RoadOfDoors(1);
        t.due("end(0) of none", x.end(0), 0);
        for (int wrong : Edges.outside(0, 0)) {
            t.due("end(" + wrong + ") of none", x.end(wrong), NONE);
        }
        for (int n : new int[] {300, 299, 21, 20, 19, 8, 1, 0}) {
            Checks.put(x, " ".repeat(n));
            for (int wrong : new int[] {n + 1, n + 256, 301, Integer.MAX_VALUE, -1, -256, Integer.MIN_VALUE}) {
                t.due("end(" + wrong + ") of " + n, x.end(wrong), NONE);
            }
            t.due("nothing is done", x.about(5), n);
            t.due("end(" + n + ") of as many", x.end(n), n);
            t.due("they stay", x.about(5), n);
        }
        Checks.put(x, "wait 1;!");
        t.due("end(-1)", x.end(-1), NONE);
        t.due("end(9)", x.end(9), NONE);
        t.due("the bytes stay", x.text(), NONE);
        t.due("the last as well", x.fault(1), 7);
        Checks.put(x, "wait 1;!");
        t.due("all but one", x.end(7), 7);
        t.due("it does not come again", x.end(8), NONE);
        t.due("the first alone", x.text(), 0);
        Checks.put(x, "wait 2;!!!!");
        x.end(7);
        int[] w = Checks.words("wait 3;", 0);
        t.due("others come behind", x.feed(w[0], w[1], w[2], w[3], w[4]), 27);
        t.due("end(14)", x.end(14), 14);
        t.due("in place of those", x.text(), 1);
        t.due("both wait", x.played(1) + x.traveller(1), NONE + 5);
    }

    // ---- texts

    private void fourTexts() {
        t.says("TEXTS 0 .. 3: of up to 300 bytes.");
        RoadOfDoors x = new RoadOfDoors(1);
        for (int text = 0; text < 4; text++) {
            t.due("no text " + text + " to keep", x.keep(0, text), false);
            t.due("no text " + text + " to play", x.played(text), -2);
            t.due("about(1)", x.about(1), text);
            t.due("text " + text, Checks.tell(x, "wait " + (text + 1) + ";opens gift=" + text + ";"), text);
        }
        t.due("about(1)", x.about(1), 4);
        t.due("no text 4", x.keep(0, 4), false);
        for (int text = 0; text < 4; text++) {
            x.keep(0, text);
            x.sets(0, 0, 0, 9);
            t.due("its script", x.played(text) + x.traveller(1), NONE + text + 1);
            t.due("its rule", x.opens(0, 0, 1, text, 0, 0) && !x.opens(0, 0, 1, text + 1, 0, 0), true);
        }
    }

    private void tapeOfTexts() {
        t.says("The tape (empty then) is a TEXT: its number. NONE: it has a FAULT");
        RoadOfDoors x = new RoadOfDoors(1);
        t.due("an empty tape", x.text(), 0);
        t.due("blanks", Checks.tell(x, " \n "), 1);
        t.due("empty then", x.about(5), 0);
        t.due("nothing to end with", x.end(1), NONE);
        t.due("a fault", Checks.tell(x, "wait"), NONE);
        t.due("empty behind a fault", x.about(5), 0);
        t.due("no text", x.about(1), 2);
        t.due("not to be kept", x.keep(0, 2), false);
        t.due("not to be played", x.played(2), -2);
        t.due("the next has its number", Checks.tell(x, "wait 1;"), 2);
        t.due("another fault", Checks.tell(x, "opens 1=1;wait"), NONE);
        t.due("the last", Checks.tell(x, "wait 2;"), 3);
        x.keep(0, 3);
        t.due("nothing stays of what had a fault", x.opens(0, 0, 1, 0, 0, 0), false);
        t.due("nothing of its clauses", x.played(3) + x.traveller(1), NONE + 2);
    }

    private void tapeOfAFifth() {
        t.says("or (the tape stays) there are 4.");
        RoadOfDoors x = Edges.told(1, "wait 1;", "wait 2;", "wait 3;");
        x.image();
        t.due("the fourth", Checks.tell(x, "wait 4;"), 3);
        int[] before = Edges.all(x);
        t.due("a fifth of an empty tape", x.text(), NONE);
        t.stays("no text more", x, before);
        Checks.put(x, "wait 5;");
        before = Edges.all(x);
        t.due("a fifth", x.text(), NONE);
        t.due("again", x.text(), NONE);
        t.stays("the tape as well", x, before);
        t.due("its bytes", x.about(5), 7);
        t.due("the fourth is as it was", x.played(3) + x.traveller(1), NONE + 4);
        x.back();
        t.due("with three texts it is a text", x.text(), 3);
        t.due("that which stayed", x.played(3) + x.traveller(1), NONE + 5);
        Checks.put(x, "wait");
        t.due("a fault as a fifth", x.text(), NONE);
        t.due("is not read", x.fault(0), 0);
        t.due("and stays", x.about(5), 4);
    }

    private void longestTexts() {
        t.says("of up to 300 bytes.");
        RoadOfDoors x = new RoadOfDoors(4);
        for (int text = 0; text < 4; text++) {
            String start = "opens door=" + text + " and 1=1";
            String whole = start + "+0".repeat((299 - start.length()) / 2) + (start.length() % 2 == 0 ? " ;" : ";");
            t.due("300 bytes", whole.length(), 300);
            Checks.put(x, whole);
            t.due("on the tape", x.about(5), 300);
            t.due("a text", x.text(), text);
            x.keep(text, text);
        }
        for (int door = 0; door < 4; door++) {
            t.due("its rule", x.opens(door, 0, 1, 0, 0, 0), true);
            x.keep(door, 3 - door);
            t.due("not another's", x.opens(door, 0, 1, 0, 0, 0), false);
        }
        is("wait 1" + " ".repeat(294), 1, 300);
        is("wait 1;" + " ".repeat(292) + "!", 1, 299);
        is(" ".repeat(293) + "wait 1;", GOOD, NONE);
        is(" ".repeat(294) + "wait 1", 1, 300);
        is(" ".repeat(296) + "wait", 1, 300);
        is("x".repeat(300), 1, 0);
        is("wait " + "0".repeat(294) + ";", GOOD, NONE);
        is("wait " + "9".repeat(295), 2, 5);
        is("opens " + "1+".repeat(147), 1, 300);
        is("opens 1=" + "1*".repeat(145) + "1;", GOOD, NONE);
    }

    /** What a text answers that is the first of a road. */
    private void is(String text, int fault, int place) {
        reads(new RoadOfDoors(1), text, fault, place);
    }

    private void reads(RoadOfDoors x, String text, int fault, int place) {
        int texts = x.about(1);
        t.due("text of " + text, Checks.tell(x, text), fault == GOOD ? texts : NONE);
        t.due("fault(0) of " + text, x.fault(0), fault);
        t.due("fault(1) of " + text, x.fault(1), place);
    }

    // ---- tokens

    private static boolean isLetter(int b) {
        return b >= 'a' && b <= 'z' || b >= 'A' && b <= 'Z';
    }

    private void bytesOfTokens() {
        t.says("TOKENS, blanks (32, 10) aside: letters a .. z, A .. Z one behind the other (one TOKEN),"
                + " digits likewise (NUMBERS, 0 .. 9999), <= >= < > = # + - * / ( ) ; (the longest).");
        for (int b = 0; b < 256; b++) {
            String sign = String.valueOf((char) b);
            boolean blank = b == 32 || b == 10;
            boolean digit = b >= '0' && b <= '9';
            is(sign + "wait 1;", blank ? GOOD : 1, blank ? NONE : 0);
            is("wa" + sign + "it 1;", 1, 0);
            is("wait" + sign + " 1;", blank ? GOOD : 1, blank ? NONE : isLetter(b) ? 0 : digit ? 6 : 4);
            is("wait 1" + sign + ";", blank || digit ? GOOD : 1, blank || digit ? NONE : b == ';' ? 7 : 6);
            is("wait 1;" + sign, blank ? GOOD : 1, blank ? NONE : 7);
            boolean compares = "<>=#".indexOf(b) >= 0;
            boolean joins = "+-*/".indexOf(b) >= 0;
            is("opens 1" + sign + "1;", compares ? GOOD : 1, compares ? NONE : digit || joins ? 9 : blank ? 8 : 7);
        }
    }

    private void longestTokens() {
        t.says("<= >= < > = # + - * / ( ) ; (the longest).");
        String[] good = {"1<=1", "1>=1", "1 <= 1", "1\n>=\n1", "1<-1", "1=-1", "1>-1", "1--1=2", "1- -1=2", "(1)<=(1)"};
        for (String ask : good) {
            is("opens " + ask + ";", GOOD, NONE);
        }
        is("opens 1< =1;", 1, 9);
        is("opens 1> =1;", 1, 9);
        is("opens 1=<1;", 1, 8);
        is("opens 1=>1;", 1, 8);
        is("opens 1==1;", 1, 8);
        is("opens 1<>1;", 1, 8);
        is("opens 1<<1;", 1, 8);
        is("opens 1<==1;", 1, 9);
        is("opens 1>==1;", 1, 9);
        is("opens 1<\n", 1, 9);
        is("opens 1<", 1, 8);
        is("opens 1<=", 1, 9);
        is("opens 1 <", 1, 9);
        is("opens 1=1;;", 1, 10);
        is("opens 12 34=1;", 1, 9);
        is("wait 2 4;", 1, 7);
        is("wait 24;", GOOD, NONE);
        is("wait24;", GOOD, NONE);
        is("opens1=1;wait1;", GOOD, NONE);
        is("wait1;wait", 1, 10);
        is("opens 1<=1and 1=1or 1=1;", GOOD, NONE);
        is("opens 1=1and1=1;", GOOD, NONE);
        is("opens 1=1andload=1;", 1, 9);
    }

    private void wordsOfTokens() {
        t.says("letters a .. z, A .. Z one behind the other (one TOKEN)");
        for (String name : new String[] {"door", "hour", "rain", "mood", "gift", "knocks", "waited", "load"}) {
            is("opens " + name + "=1;", GOOD, NONE);
            is("opens 1=" + name + ";", GOOD, NONE);
            is("opens " + name.substring(0, name.length() - 1) + "=1;", 1, 6);
            is("opens " + name.substring(1) + "=1;", 1, 6);
            is("opens " + name + "s=1;", 1, 6);
            is("opens " + name.toUpperCase() + "=1;", 1, 6);
            is("opens " + name.substring(0, 1).toUpperCase() + name.substring(1) + "=1;", 1, 6);
            is("opens " + name.charAt(0) + " " + name.substring(1) + "=1;", 1, 6);
        }
        for (String word : new String[] {"open", "opensx", "Opens", "OPENS", "pens", "knocks", "knoc", "Knock", "waits",
            "wai", "WAIT", "waited", "x", "with", "or", "and", "not", "wi", "o"}) {
            is(word + " 1=1;", 1, 0);
        }
        is("knock 1 With 1;", 1, 8);
        is("knock 1 wit 1;", 1, 8);
        is("knock 1 withe 1;", 1, 8);
        is("knock 1with1;", GOOD, NONE);
        is("opens Not 1=1;", 1, 6);
        is("opens nota 1=1;", 1, 6);
        is("opens 1=1 And 1=1;", 1, 10);
        is("opens 1=1 an 1=1;", 1, 10);
        is("opens 1=1 Or 1=1;", 1, 10);
        is("opens 1=1 nor 1=1;", 1, 10);
    }

    /** At each place of the grammar each token: it can stand there, or it is the fault. */
    private void tokensWhereTheyCanStand() {
        t.says("{CLAUSE}, 24 at most: opens EITHER ; (once) or knock NUMBER with NUMBER ; or wait NUMBER ;."
                + " EITHER: BOTH {or BOTH}. BOTH: ASK {and ASK}."
                + " ASK: not ASK, or SUM one of < <= > >= = # (unlike) SUM. SUM: PRODUCT {+ or - PRODUCT}."
                + " PRODUCT: ONE {* or / ONE}. ONE: NUMBER, NAME, ( SUM ), - ONE.");
        String one = " 1 ( - door hour rain mood gift knocks waited load ";
        String joined = " + - * / ";
        String compared = joined + "< <= > >= = # ";
        String asked = joined + "and or ; ";
        String[][] table = {
            {"", " opens knock wait "}, {"wait 1; ", " opens knock wait "}, {"opens 1=1; ", " knock wait "},
            {"knock ", " 1 "}, {"knock 1 ", " with "}, {"knock 1 with ", " 1 "}, {"knock 1 with 1 ", " ; "},
            {"wait ", " 1 "}, {"wait 1 ", " ; "},
            {"opens ", one + "not "}, {"opens not ", one + "not "}, {"opens not not ", one + "not "},
            {"opens 1=1 and ", one + "not "}, {"opens 1=1 or ", one + "not "}, {"opens 1=1 and not ", one + "not "},
            {"opens 1 ", compared}, {"opens load ", compared}, {"opens (1) ", compared}, {"opens -1 ", compared},
            {"opens 1+1 ", compared}, {"opens 1*(1-1) ", compared}, {"opens 1=1 and 1 ", compared}, {"opens not 1 ", compared},
            {"opens 1= ", one}, {"opens 1< ", one}, {"opens 1<= ", one}, {"opens 1> ", one}, {"opens 1>= ", one},
            {"opens 1# ", one}, {"opens 1+ ", one}, {"opens 1- ", one}, {"opens 1* ", one}, {"opens 1/ ", one},
            {"opens - ", one}, {"opens -- ", one}, {"opens ( ", one}, {"opens (( ", one}, {"opens (1+ ", one},
            {"opens 1=1* ", one}, {"opens 1=- ", one}, {"opens 1=( ", one}, {"opens not -( ", one},
            {"opens (1 ", joined + ") "}, {"opens ((1) ", joined + ") "}, {"opens (1-load ", joined + ") "},
            {"opens 1=(1 ", joined + ") "}, {"opens 1=-(1*1 ", joined + ") "}, {"opens 1=1 or (1 ", joined + ") "},
            {"opens 1=1 ", asked}, {"opens 1=(1) ", asked}, {"opens 1=1+1 ", asked}, {"opens 1=load ", asked},
            {"opens 1=-1 ", asked}, {"opens not 1=1 ", asked}, {"opens 1=1 and 1=1 ", asked}, {"opens 1=1 or 1=1 ", asked},
        };
        String[] tokens = {"opens", "knock", "with", "wait", "or", "and", "not", "1", ";", "(", ")", "<", "<=", ">", ">=",
            "=", "#", "+", "-", "*", "/", "door", "hour", "rain", "mood", "gift", "knocks", "waited", "load", "x", "!"};
        for (String[] row : table) {
            for (String token : tokens) {
                String text = row[0] + token;
                boolean can = row[1].contains(" " + token + " ");
                boolean ends = can && token.equals(";");
                boolean again = row[0].contains("; ") && token.equals("opens") && row[0].contains("opens");
                is(text, ends ? GOOD : again ? 4 : 1, ends ? NONE : can ? text.length() : row[0].length());
            }
            boolean good = row[0].isEmpty() || row[0].endsWith("; ");
            is(row[0], good ? GOOD : 1, good ? NONE : row[0].length());
        }
    }

    private void clausesAtMost() {
        t.says("{CLAUSE}, 24 at most");
        is("", GOOD, NONE);
        is(WAITS.repeat(23), GOOD, NONE);
        is(WAITS.repeat(24), GOOD, NONE);
        is(WAITS.repeat(24) + " \n", GOOD, NONE);
        is(WAITS.repeat(25), 5, 144);
        is("opens 1=1;" + WAITS.repeat(23), GOOD, NONE);
        is(WAITS.repeat(23) + "opens 1=1;", GOOD, NONE);
        is("opens 1=1;" + WAITS.repeat(24), 5, 148);
        is(WAITS.repeat(23) + "knock1with1;", GOOD, NONE);
        RoadOfDoors x = new RoadOfDoors(1);
        t.due("24 clauses", Checks.tell(x, WAITS.repeat(11) + "opens gift=2;" + WAITS.repeat(11) + "wait 9;"), 0);
        x.keep(0, 0);
        t.due("all are played", x.played(0), NONE);
        t.due("each of them", x.traveller(1), (22 + 9) % 24);
        t.due("its opens", x.opens(0, 0, 1, 2, 0, 0) && !x.opens(0, 0, 1, 3, 0, 0), true);
    }

    // ---- values

    private void namesSeen() {
        t.says("NAMES: door, hour, rain (of that HOUR), mood, gift, knocks, waited, load.");
        String[] names = {"door", "hour", "knocks", "gift", "waited", "load"};
        int[] low = {0, 0, 1, 0, 0, 0};
        int[] high = {7, 23, 7, 5, 9, 9};
        for (int i = 0; i < 6; i++) {
            RoadOfDoors x = new RoadOfDoors(8);
            for (int of : new int[] {low[i], high[i]}) {
                Checks.tell(x, "opens " + names[i] + "=" + of + ";");
                int rule = x.about(1) - 1;
                for (int door = 0; door < 8; door++) {
                    x.keep(door, rule);
                }
                for (int value = low[i]; value <= high[i]; value++) {
                    int[] a = {3, 12, 4, 2, 5, 6};
                    a[i] = value;
                    t.due(names[i] + "=" + of + " of " + value, x.opens(a[0], a[1], a[2], a[3], a[4], a[5]), value == of);
                }
            }
        }
        RoadOfDoors x = Edges.kept(2, "opens rain=9 and mood=0;", "opens rain=0 and mood=9;");
        x.rain(23, 9);
        x.mood(1, 9);
        t.due("rain and mood", x.opens(0, 23, 1, 0, 0, 0), true);
        t.due("rain of that hour", x.opens(0, 22, 1, 0, 0, 0), false);
        t.due("rain of the other hours", x.opens(1, 0, 1, 0, 0, 0), true);
        t.due("not of that", x.opens(1, 23, 1, 0, 0, 0), false);
        x.mood(0, 9);
        x.mood(1, 8);
        t.due("mood of that door", x.opens(0, 23, 1, 0, 0, 0), false);
        t.due("and of this", x.opens(1, 0, 1, 0, 0, 0), false);
    }

    /** Whether opens is so, of a door 1 with mood 6 at hour 9 in rain 3, 2 knocks, gift 4, waited 5, load 7. */
    private void so(boolean want, String... asks) {
        for (String ask : asks) {
            RoadOfDoors x = Edges.kept(2, "opens " + ask + ";");
            x.mood(1, 6);
            x.rain(9, 3);
            t.due(ask, x.opens(1, 9, 2, 4, 5, 7), want);
        }
    }

    private void likeAndUnlike() {
        t.says("SUM one of < <= > >= = # (unlike) SUM.");
        for (int a = -2; a <= 2; a++) {
            for (int b = -2; b <= 2; b++) {
                String[] signs = {"<", "<=", ">", ">=", "=", "#"};
                boolean[] want = {a < b, a <= b, a > b, a >= b, a == b, a != b};
                for (int i = 0; i < 6; i++) {
                    so(want[i], a + signs[i] + b);
                    so(!want[i], "not " + a + signs[i] + b);
                    so(want[i], "not not " + a + signs[i] + b);
                }
            }
        }
        so(true, "0=0", "0000=0", "9999=9999", "0009=9", "9999>9998", "9999<9998+2");
    }

    private void fromTheLeft() {
        t.says("From the left");
        so(true, "7-2-1=4", "7-2+1=6", "100/10/2=5", "8/4*2=4", "2*8/4*2=8", "9-3+2-1=7", "1000/9*9=999", "1-2-3-4=-8",
                "2+3*4=14", "2*3+4=10", "10-8/4=8", "10-4/2-1=7", "-2+5=3", "-2*3=-6", "5--2=7", "-7/2*2=-6", "--7/2=3",
                "(2+3)*4=20", "10-(4-1)=7", "-(2+3)*2=-10", "gift-waited-load=-8", "door-hour+rain*mood/gift=-4");
        so(true, "1=1 or 1=1 and 1=2", "1=2 and 1=1 or 1=1", "1=2 or 1=1 and 1=1", "not 1=2 and 1=1", "not 1=2 or 1=2",
                "1=2 or 1=2 or 1=1", "1=1 and 1=1 and 1=1", "not 1=1 or 1=1", "1=2 and 1=2 or 1=1 and 1=1");
        so(false, "1=2 or 1=1 and 1=2", "1=1 and 1=2 or 1=2", "not 1=1 and 1=1", "not 1=2 and 1=2", "1=2 or 1=2 or 1=2",
                "1=1 and 1=1 and 1=2", "1=2 and 1=1 and 1=1", "not 1=1 or 1=2", "not 1=2 and not 1=1", "1=2 and not 1=1 or 1=2");
    }

    private void cutTowardsNone() {
        t.says("/ cuts towards 0, by 0 it is 0");
        so(true, "7/2=3", "-7/2=-3", "7/-2=-3", "-7/-2=3", "1/2=0", "-1/2=0", "1/-2=0", "-1/-2=0", "8/2=4", "-8/2=-4",
                "9999/9999=1", "9998/9999=0", "-9998/9999=0", "0/5=0", "0/-5=0", "(1-8)/4=-1");
        so(true, "5/0=0", "-5/0=0", "0/0=0", "5/(3-3)=0", "5/(3-3)+2=2", "7/(7/8)=0", "9999*9999/0=0", "1/0/0=0",
                "3*(4/0)=0", "1-1/0=1", "gift/(waited-5)=0");
        so(false, "5/0=5", "5/0=1", "5/0>0", "-5/0<0", "-7/2=-4", "7/-2=-4");
    }

    /** 1000*1000 is the most; 999*1001 is one less. */
    private void cutAtAMillion() {
        t.says("what is above 1000000 (below the same less) is that, at each step.");
        String most = "1000*1000";
        String less = "999*1001";
        so(true, less + "<" + most, less + "+1=" + most, less + "+2=" + most, most + "-1=" + less, most + "+1=" + most,
                most + "+1-1=" + less, most + "+9999-9999=1000*990+1", "1000*1001=" + most, "1001*1000-1=" + less,
                "9999*9999=" + most, "9999*9999-1=" + less, "9999*9999/1000=1000", "9999*9999/9999*9999<" + most,
                "(" + most + ")*(" + most + ")=" + most, "(" + most + ")*(" + most + ")/1000=1000",
                "(" + most + ")*(-1000*1000)=-" + most, "(" + most + "+1)-(" + most + ")=0", most + "*2/2=500*1000",
                less + "*1=" + less, most + "*1=" + most, most + "/1=" + most, most + "/1000=1000");
        so(true, "-" + less + ">-" + most, "-" + less + "-1=-" + most, "-" + less + "-2=-" + most, "-" + most + "+1=-" + less,
                "-" + most + "-1=-" + most, "-" + most + "-1+1=-" + less, "-1000*1001=-" + most, "-9999*9999=-" + most,
                "-9999*9999+1=-" + less, "9999*-9999=-" + most, "-9999*-9999=" + most, "-(" + most + "+1)=-" + most,
                "-(-1000*1000-1)=" + most, "-(-1000*1000-1)-1=" + less, "0-9999*9999=-" + most, "-9999*9999/1000=-1000",
                "(-1000*1000)*(-1000*1000)=" + most, "(-1000*1000)/-1=" + most, "1-(" + most + ")=-" + less,
                "0-(" + most + ")-1=-" + most);
        so(false, most + "+1>" + most, less + "=" + most, "9999*9999>" + most, "-9999*9999<-" + most, "-" + less + "=-" + most);
    }

    private void bothSides() {
        t.says("or and and look at both sides always.");
        so(true, "1=1 or 1/0=1", "1/0=1 or 1=1", "1=1 and 1/0=0", "not (1/0)=1 and 1=1");
        so(false, "1=2 and 1/0=0", "1/0=1 or 1=2", "1=1 and 1/0=1");
        is("opens 1=1 or 1;", 1, 14);
        is("opens 1=2 and 1;", 1, 15);
        is("opens 1=1 or 10000=1;", 2, 13);
    }

    // ---- faults

    private void faultsInTheirOrder() {
        t.says("FAULTS, the first as TOKENS are come to, at the TOKEN's first byte (of the end at the length), of one the least:"
                + " 1 it can't stand there, or is none.");
        is("wait 25;;", 2, 5);
        is("wait 25", 2, 5);
        is("wait 25 wait", 2, 5);
        is("wait ;25", 1, 5);
        is("opens 1=1;opens 10000=1;", 4, 10);
        is("opens 10000=1;opens 1=1;", 2, 6);
        is("opens (((((((((10000;", 3, 14);
        is("opens 10000+(((((((((1;", 2, 6);
        is("  \n wait   25 ;", 2, 11);
        is("opens 1=1;   opens 1=2;", 4, 13);
        is("opens 1=1  nothing;", 1, 11);
        is("knock 1 with    60 ;", 2, 16);
        is("opens   ((((((((   (1", 3, 19);
        is("wait", 1, 4);
        is("wait ", 1, 5);
        is("wait \n\n ", 1, 8);
        is("opens 1=1", 1, 9);
        is("opens 1=1 ", 1, 10);
        is("knock 1 with 0", 1, 14);
        t.says("of one the least: 1 it can't stand there, or is none.");
        is("10000", 1, 0);
        is("wait 1;10000", 1, 7);
        is("wait 1 10000", 1, 7);
        is("knock 1 10000", 1, 8);
        is("opens 1 10000=1;", 1, 8);
        is("opens (1) 10000", 1, 10);
        is("opens 1=1 10000", 1, 10);
        is("opens ((((((((1(", 1, 15);
        is("opens ((((((((not", 1, 14);
        is("opens ((((((((1-not", 1, 16);
        is("opens --------not", 1, 14);
        is("opens not not not not not not not not 1 not", 1, 40);
        is("opens 1=1 opens 1=1;", 1, 10);
        is("opens opens", 1, 6);
        is("opens 1=1;wait opens", 1, 15);
        is(WAITS.repeat(24) + "with", 1, 144);
        is(WAITS.repeat(24) + "!", 1, 144);
        is(WAITS.repeat(24) + "10000", 1, 144);
        is("opens 1=1;" + WAITS.repeat(23) + "opens", 4, 148);
        is(WAITS.repeat(23) + "opens 1=1;opens", 4, 148);
    }

    private void faultsOfNumbers() {
        t.says("2 a NUMBER that isn't one of those told (above 9999; KNOCKS 1 .. 7, GIFTS 0 .. 5; of wait 0 .. 24).");
        for (int n : new int[] {0, 1, 5, 6, 7, 8, 9, 10, 23, 24, 25, 99, 255, 256, 257, 9999, 10000}) {
            boolean knocks = n >= 1 && n <= 7;
            is("knock " + n + " with 0;", knocks ? GOOD : 2, knocks ? NONE : 6);
            is("knock 1 with " + n + ";", n <= 5 ? GOOD : 2, n <= 5 ? NONE : 13);
            is("wait " + n + ";", n <= 24 ? GOOD : 2, n <= 24 ? NONE : 5);
            is("opens " + n + "=1;", n <= 9999 ? GOOD : 2, n <= 9999 ? NONE : 6);
            is("opens 1=(load-" + n + ");", n <= 9999 ? GOOD : 2, n <= 9999 ? NONE : 14);
            is("opens --" + n + "=1;", n <= 9999 ? GOOD : 2, n <= 9999 ? NONE : 8);
        }
        for (String big : new String[] {"10001", "65536", "99999", "100000", "2147483647", "2147483648", "4294967296",
            "4294967297", "18446744073709551616", "9".repeat(200)}) {
            is("opens " + big + "=1;", 2, 6);
            is("wait " + big + ";", 2, 5);
            is("knock " + big + " with 0;", 2, 6);
            is("knock 1 with " + big + ";", 2, 13);
        }
    }

    private void faultsOfNesting() {
        t.says("3 the 9th of ( not and - (of one ONE) that are open around one another (at it).");
        is("opens ((((((((1))))))))=1;", GOOD, NONE);
        is("opens (((((((((1)))))))))=1;", 3, 14);
        is("opens --------1=1;", GOOD, NONE);
        is("opens ---------1=1;", 3, 14);
        is("opens " + "not ".repeat(8) + "1=1;", GOOD, NONE);
        is("opens " + "not ".repeat(9) + "1=1;", 3, 38);
        is("opens " + "not ".repeat(7) + "(1)=-1;", GOOD, NONE);
        is("opens " + "not ".repeat(8) + "(1)=1;", 3, 38);
        is("opens " + "not ".repeat(8) + "-1=1;", 3, 38);
        is("opens " + "not ".repeat(8) + "1=-1;", 3, 40);
        is("opens " + "not ".repeat(8) + "1=(1);", 3, 40);
        is("opens " + "not ".repeat(7) + "-(1)=1;", 3, 35);
        is("opens " + "not ".repeat(3) + "(-(-(1)))=1;", GOOD, NONE);
        is("opens " + "not ".repeat(3) + "(-(-(-1)))=1;", 3, 23);
        is("opens -(-(-(-(1))))=1;", GOOD, NONE);
        is("opens -(-(-(-(-1))))=1;", 3, 14);
        is("opens (-(-(-(-1))))=1;", GOOD, NONE);
        is("opens ((((((((-", 3, 14);
        is("opens --------(", 3, 14);
        t.says("that are open around one another (at it).");
        is("opens ((((((((1))))))))=((((((((1))))))));", GOOD, NONE);
        is("opens ((((((((1))))))))=(((((((((1;", 3, 32);
        is("opens ((((((((1)+(2)))))))*(3))=1;", GOOD, NONE);
        is("opens ((((((((1)+((2))))))))=1;", 3, 18);
        is("opens --------1=--------1;", GOOD, NONE);
        is("opens --------1+--------1=1;", GOOD, NONE);
        is("opens -1-1-1-1-1-1-1-1-1-1=1-1-1-1-1-1-1-1-1-1;", GOOD, NONE);
        is("opens (((((((-1-1-(2)-1)))))))=1;", GOOD, NONE);
        is("opens (((((((--1)))))))=1;", 3, 14);
        is("opens (((((((-(1))))))))=1;", 3, 14);
        is("opens " + "not 1=1 and ".repeat(9) + "not 1=1;", GOOD, NONE);
        is("opens " + "not 1=1 or ".repeat(9) + "not 1=1;", GOOD, NONE);
        is("opens not 1=1 and " + "not ".repeat(8) + "1=1;", GOOD, NONE);
        is("opens not 1=1 or " + "not ".repeat(9) + "1=1;", 3, 49);
        for (String before : new String[] {"", "not ", "1=1 and ", "1=1 or ", "1=2 and 1=1 and ", "not 1=1 and ", "not 1=1 or not "}) {
            int open = before.endsWith("not ") ? 7 : 8;
            int place = 6 + before.length() + open;
            is("opens " + before + "(".repeat(open) + "1" + ")".repeat(open) + "=1;", GOOD, NONE);
            is("opens " + before + "(".repeat(open) + "(1", 3, place);
            is("opens " + before + "-".repeat(open) + "1=" + "-".repeat(open) + "1;", GOOD, NONE);
            is("opens " + before + "-".repeat(open) + "-1", 3, place);
            is("opens " + before + "1=" + "-".repeat(open) + "(1", 3, place + 2);
            is("opens " + before + "not ".repeat(open) + "1=1;", GOOD, NONE);
            is("opens " + before + "not ".repeat(open) + "not 1=1;", 3, place + 3 * open);
        }
        is("opens not (1)=(1) and not -1=-1 or ((((((((1))))))))=--------1;", GOOD, NONE);
        is("opens not (((((((1)))))))=(((((((1)))))));", GOOD, NONE);
        is("opens not (((((((1)))))))=((((((((1)))))));", 3, 33);
        is("opens not 1+2*3<-((((((1))))));", GOOD, NONE);
        is("opens not 1+2*3<-(((((((1)))))));", 3, 23);
    }

    private void faultsOfOpens() {
        t.says("4 opens for the second time (at it).");
        is("opens 1=1;", GOOD, NONE);
        is("opens 1=1;opens", 4, 10);
        is("opens 1=1;opens 1=1;", 4, 10);
        is("opens 1=1; wait 1; opens 1=1;", 4, 19);
        is("wait 1;opens 1=1;knock 1 with 1;opens 1=1;", 4, 32);
        is("opens 1=1;" + WAITS.repeat(22) + "opens 1=1;", 4, 142);
        RoadOfDoors x = new RoadOfDoors(1);
        t.due("once in a text", Checks.tell(x, "opens gift=1;"), 0);
        t.due("once in another", Checks.tell(x, "opens gift=2;"), 1);
        t.due("a second in one", Checks.tell(x, "opens gift=3;opens gift=4;"), NONE);
        t.due("once in the next", Checks.tell(x, "opens gift=5;"), 2);
    }

    private void faultsOfClauses() {
        t.says("5 the 25th CLAUSE (at its first TOKEN).");
        for (String first : new String[] {"wait", "knock", "opens", "wait 25;", "wait;", "opens 1;", "knock 9"}) {
            is(WAITS.repeat(24) + first, 5, 144);
            is(WAITS.repeat(24) + " \n" + first, 5, 146);
        }
        is(WAITS.repeat(23) + "wait 25;", 2, 143);
        is(WAITS.repeat(23) + "opens 1=1;wait", 5, 148);
        is(WAITS.repeat(24) + ";", 1, 144);
        is(WAITS.repeat(26), 5, 144);
        is(WAITS.repeat(50), 5, 144);
    }

    /** What a text with a fault leaves open is not open in the next. */
    private void readAnew() {
        t.says("FAULTS, the first as TOKENS are come to");
        String[] bad = {"opens (", "opens ((((((((", "opens --------", "opens " + "not ".repeat(8), "opens 1=1 and not (1+2*",
            "opens 1=1 or not", "opens 1=", "opens 1", "opens", "opens 1=1;opens", WAITS.repeat(25), "knock 1", "knock 1 with", "wait",
            WAITS.repeat(23) + "opens (1+"};
        String[] good = {"", "opens 1=1;", "opens not not 1=1;", "opens " + "not ".repeat(8) + "1=1;", "opens ((((((((1))))))))=1;",
            "opens --------1=1;", "wait 1;opens 1=1;", "opens 1=1 and not 1=2;", "opens 1=1;" + WAITS.repeat(23)};
        for (String first : bad) {
            RoadOfDoors x = new RoadOfDoors(1);
            for (String then : good) {
                t.due("a fault", Checks.tell(x, first), NONE);
                t.due(then + " behind " + first, Checks.tell(x, then), 0);
                t.due("opens by it", x.keep(0, 0) && x.opens(0, 0, 1, 0, 0, 0), then.contains("opens"));
                x.back();
            }
            reads(x, "opens 1)", 1, 7);
            reads(x, "opens (1=1);", 1, 8);
            reads(x, "opens 1 and 1=1;", 1, 8);
            reads(x, "opens 1;", 1, 7);
        }
    }

    private void faultAsked() {
        t.says("Of the latest text that was read: 0 its FAULT (0 without), 1 its place (NONE without)."
                + " NONE for others, and ahead of any.");
        RoadOfDoors x = new RoadOfDoors(1);
        for (int what : new int[] {0, 1, 2, -1, Integer.MIN_VALUE, Integer.MAX_VALUE}) {
            t.due("ahead of any, fault(" + what + ")", x.fault(what), NONE);
        }
        Checks.put(x, "wait");
        t.due("fed, not read", x.fault(0), NONE);
        x.text();
        t.due("read", x.fault(0) * 10 + x.fault(1), 14);
        for (int wrong : Edges.outside(0, 1)) {
            t.due("fault(" + wrong + ")", x.fault(wrong), NONE);
        }
        Checks.put(x, "wait 1;");
        t.due("the latest that was read", x.fault(0) * 10 + x.fault(1), 14);
        x.text();
        t.due("without", x.fault(0), 0);
        t.due("no place", x.fault(1), NONE);
        reads(x, "!", 1, 0);
        reads(x, "wait 30;", 2, 5);
        reads(x, "opens (((((((((", 3, 14);
        reads(x, "opens 1=1;opens", 4, 10);
        reads(x, WAITS.repeat(25), 5, 144);
        reads(x, "", GOOD, NONE);
        for (int wrong : Edges.outside(0, 1)) {
            t.due("without, fault(" + wrong + ")", x.fault(wrong), NONE);
        }
    }

    // ---- rules and scripts

    private void rulesKept() {
        t.says("RULE of a DOOR (NONE: none): true. False for others.");
        for (int texts = 0; texts <= 4; texts++) {
            RoadOfDoors x = new RoadOfDoors(2);
            for (int i = 0; i < texts; i++) {
                Checks.tell(x, "wait 1;");
            }
            t.due("none", x.keep(1, NONE), true);
            t.due("about", x.about(11), NONE);
            for (int text = 0; text < texts; text++) {
                t.due("keep(1, " + text + ") of " + texts, x.keep(1, text), true);
                t.due("about", x.about(11), text);
            }
            int[] before = Edges.all(x);
            for (int wrong : Edges.outside(NONE, texts - 1)) {
                t.due("keep(1, " + wrong + ") of " + texts, x.keep(1, wrong), false);
            }
            t.due("keep(2, NONE)", x.keep(2, NONE), false);
            t.due("keep(-1, NONE)", x.keep(-1, NONE), false);
            t.stays("rules that are none", x, before);
            t.due("none again", x.keep(1, NONE), true);
            t.due("about", x.about(11), NONE);
        }
    }

    private void clausesPlayed() {
        t.says("PLAYED by a TEXT: its knock and wait clauses, in their order, as by hand"
                + " (a knock that does not open is done, too; wait 0: nothing is done)");
        RoadOfDoors x = Edges.told(3, "knock 2 with 1;wait 0;wait 2;knock 3 with 4;opens knocks=3 and waited=3;knock 7 with 5;",
                "wait 24;wait 0;", "wait 0;", "knock 1 with 5;");
        x.keep(0, 0);
        x.hinge(1, false);
        x.sets(0, 0, 22, 10);
        t.due("all is done", x.played(0), NONE);
        t.travellerIs("then", x, 2, 3, 0, 1, 5);
        t.due("wait 0 alone", x.played(2), NONE);
        t.travellerIs("nothing is done", x, 2, 3, 0, 1, 5);
        t.due("a whole day", x.played(1), NONE);
        t.travellerIs("then", x, 2, 3, 9, 1, 29);
        t.due("one hour is taken back", x.undo(), 28);
        x.sets(0, 4, 0, 99);
        t.due("as by hand: by its rule, not", x.played(3), NONE);
        t.travellerIs("then", x, 0, 1, 1, 99, 1);
    }

    private void clausesThatCannotBe() {
        t.says("one that can't be ends it: its number among all CLAUSES (from 0); what was done stays.");
        RoadOfDoors x = Edges.told(2, "opens gift>3;wait 1;knock 1 with 5;wait 1;knock 1 with 4;wait 2;",
                WAITS.repeat(23) + "knock 1 with 1;", "knock 1 with 1;wait 1;", WAITS.repeat(12) + "opens 1=1;knock 1 with 1;");
        x.keep(0, 0);
        x.keep(1, 0);
        x.sets(0, 0, 0, 4);
        t.due("above his purse", x.played(0), 2);
        t.travellerIs("what was done stays", x, 0, 1, 1, 4, 1);
        x.sets(0, 0, 0, 8);
        t.due("above what is left", x.played(0), 4);
        t.travellerIs("what was done stays", x, 1, 3, 1, 3, 3);
        x.sets(0, 0, 0, 9);
        t.due("he is through", x.played(0), 5);
        t.travellerIs("what was done stays", x, 2, 4, 0, 0, 4);
        t.due("at once", x.played(2), 0);
        t.travellerIs("nothing was done", x, 2, 4, 0, 0, 4);
        t.due("opens is no knock", x.played(0), 1);
        x.sets(0, 0, 0, 0);
        t.due("the last of 24", x.played(1), 23);
        t.travellerIs("what was done stays", x, 0, 23, 9, 0, 23);
        x.sets(0, 0, 0, 0);
        t.due("the first", x.played(2), 0);
        t.travellerIs("nothing behind it is done", x, 0, 0, 0, 0, 0);
        t.due("opens counts", x.played(3), 13);
        t.travellerIs("what was done stays", x, 0, 12, 9, 0, 12);
        x.sets(0, 0, 0, 1);
        t.due("all of his purse", x.played(1), NONE);
    }

    private void playedForOthers() {
        t.says("PLAYED by a TEXT: NONE: all is done; else the number of the CLAUSE that can't be. -2 for others.");
        RoadOfDoors x = new RoadOfDoors(1);
        for (int texts = 0; texts <= 4; texts++) {
            int[] before = Edges.all(x);
            for (int wrong : Edges.outside(0, texts - 1)) {
                t.due("played(" + wrong + ") of " + texts, x.played(wrong), -2);
            }
            if (texts % 2 == 0) {
                t.stays("others", x, before);
            }
            for (int text = 0; text < texts; text++) {
                t.due("played(" + text + ") of " + texts, x.played(text), NONE);
            }
            Checks.tell(x, "wait " + texts + ";");
        }
        t.due("hours waited", x.traveller(1), (3 * 1 + 2 * 2 + 3) % 24);
        RoadOfDoors y = Edges.told(1, "", "opens 1=2;");
        t.due("no clause", y.played(0), NONE);
        t.due("opens alone", y.played(1), NONE);
        y.hinge(0, false);
        y.knock(1, 0);
        t.due("no clause, through", y.played(0), NONE);
        t.due("opens alone, through", y.played(1), NONE);
    }
}
