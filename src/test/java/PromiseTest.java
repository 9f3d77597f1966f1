/** Each promise by hand: ordinary inputs, the edges that the document names, and wrong inputs. */
public final class PromiseTest {
    private static final int NONE = RoadOfDoors.NONE;
    private static final int[] WRONG = {-1, -2, Integer.MIN_VALUE, Integer.MAX_VALUE};

    private final Checks checks = new Checks();
    private String promise = "";

    public static void main(String[] args) {
        PromiseTest t = new PromiseTest();
        t.newObject();
        t.rain();
        t.mood();
        t.moods();
        t.hinge();
        t.feed();
        t.end();
        t.text();
        t.textsThatStand();
        t.fault();
        t.faultsByKind();
        t.values();
        t.keep();
        t.opens();
        t.sets();
        t.knock();
        t.later();
        t.played();
        t.undo();
        t.traveller();
        t.way();
        t.wayByOrder();
        t.waySoonest();
        t.wayByEachHour();
        t.wayOfTheLast();
        t.waysAnew();
        t.guest();
        t.clear();
        t.earns();
        t.even();
        t.rounds();
        t.roundsWithoutEnd();
        t.roundsToTheLast();
        t.seen();
        t.kept();
        t.imageAndBack();
        t.imageHoldsNoTape();
        t.textsBehindBack();
        t.about();
        t.checks.end();
    }

    private void of(int number, String name) {
        promise = "promise " + number + " " + name + ": ";
    }

    private void due(String call, int got, int want) {
        checks.due(promise + call, got, want);
    }

    private void due(String call, boolean got, boolean want) {
        checks.due(promise + call, got, want);
    }

    private void newObject() {
        of(1, "a new object");
        int[][] told = {{1, 1}, {5, 5}, {8, 8}, {9, 8}, {0, 1}, {-3, 1}, {Integer.MAX_VALUE, 8}, {Integer.MIN_VALUE, 1}};
        for (int[] t : told) {
            RoadOfDoors x = new RoadOfDoors(t[0]);
            due("about(0) of " + t[0], x.about(0), t[1]);
            for (int what = 1; what <= 5; what++) {
                due("about(" + what + ")", x.about(what), 0);
            }
            for (int door = 0; door < t[1]; door++) {
                due("rule", x.about(10 + door), NONE);
                due("mood and hinge", x.about(20 + door), 0);
            }
            for (int hour = 0; hour < 24; hour++) {
                due("rain", x.about(30 + hour), 0);
            }
            for (int what = 0; what <= 5; what++) {
                due("traveller(" + what + ")", x.traveller(what), 0);
            }
            due("undo", x.undo(), NONE);
            x.mood(0, 4);
            x.sets(1, 1, 1, 1);
            due("back", x.back(), 0);
            due("mood of the image", x.about(20), 0);
            due("load of the image", x.traveller(4), 0);
        }
    }

    private void rain() {
        of(2, "rain");
        RoadOfDoors x = Edges.kept(1, "opens rain=7;");
        due("rain(0, 9)", x.rain(0, 9), true);
        due("rain(23, 7)", x.rain(23, 7), true);
        due("about(30)", x.about(30), 9);
        due("about(53)", x.about(53), 7);
        due("opens at 23", x.opens(0, 23, 1, 0, 0, 0), true);
        due("opens at 22", x.opens(0, 22, 1, 0, 0, 0), false);
        due("opens at 0", x.opens(0, 0, 1, 0, 0, 0), false);
        due("rain(0, 7)", x.rain(0, 7), true);
        due("opens at 0 then", x.opens(0, 0, 1, 0, 0, 0), true);
        due("rain(0, 9) again", x.rain(0, 9), true);
        due("rain(24, 1)", x.rain(24, 1), false);
        due("rain(3, 10)", x.rain(3, 10), false);
        for (int wrong : WRONG) {
            due("rain(" + wrong + ", 1)", x.rain(wrong, 1), false);
            due("rain(3, " + wrong + ")", x.rain(3, wrong), false);
        }
        due("about(33)", x.about(33), 0);
        due("rain(23, 0)", x.rain(23, 0), true);
        due("about(53) anew", x.about(53), 0);
    }

    private void mood() {
        of(3, "mood");
        RoadOfDoors x = Edges.kept(3, "opens mood>8;");
        due("mood(2, 9)", x.mood(2, 9), true);
        due("about(22)", x.about(22), 9);
        due("opens(2)", x.opens(2, 0, 1, 0, 0, 0), true);
        due("opens(1)", x.opens(1, 0, 1, 0, 0, 0), false);
        due("mood(3, 1)", x.mood(3, 1), false);
        due("mood(0, 10)", x.mood(0, 10), false);
        for (int wrong : WRONG) {
            due("mood(" + wrong + ", 1)", x.mood(wrong, 1), false);
            due("mood(0, " + wrong + ")", x.mood(0, wrong), false);
        }
        due("about(20)", x.about(20), 0);
        due("mood(2, 0)", x.mood(2, 0), true);
        due("about(22) anew", x.about(22), 0);
    }

    private void moods() {
        of(4, "moods");
        RoadOfDoors x = new RoadOfDoors(8);
        int[] seeds = {0, 3, 1234, 9999};
        for (int seed : seeds) {
            long draw = seed * 5 + 8;
            due("moods(" + seed + ")", x.moods(seed), (int) (draw % 10));
            for (int door = 0; door < 8; door++) {
                due("mood of " + door + " by " + seed, x.about(20 + door), (int) (draw % 10));
                draw = (draw * 197 + 59) % 30113;
            }
        }
        int last = x.about(27);
        due("moods(10000)", x.moods(10000), NONE);
        for (int wrong : WRONG) {
            due("moods(" + wrong + ")", x.moods(wrong), NONE);
        }
        due("mood of 7 as it was", x.about(27), last);
    }

    private void hinge() {
        of(5, "hinge");
        RoadOfDoors x = Edges.kept(2, "opens 1=2;");
        due("hinge(1, false)", x.hinge(1, false), true);
        due("about(21)", x.about(21), 10);
        due("about(20)", x.about(20), 0);
        x.mood(1, 4);
        due("about(21) with a mood", x.about(21), 14);
        due("opens(1)", x.opens(1, 0, 1, 0, 0, 0), true);
        due("opens(0)", x.opens(0, 0, 1, 0, 0, 0), false);
        due("hinge(1, true)", x.hinge(1, true), true);
        due("opens(1) hinged", x.opens(1, 0, 1, 0, 0, 0), false);
        due("hinge(2, false)", x.hinge(2, false), false);
        for (int wrong : WRONG) {
            due("hinge(" + wrong + ")", x.hinge(wrong, false), false);
        }
    }

    private void feed() {
        of(6, "feed");
        RoadOfDoors x = new RoadOfDoors(1);
        int[] w = Checks.words("opens gift=4and 1=1;", 0);
        due("feed", x.feed(w[0], w[1], w[2], w[3], w[4]), 20);
        due("text", x.text(), 0);
        x.keep(0, 0);
        due("the highest byte first", x.opens(0, 0, 1, 4, 0, 0) && !x.opens(0, 0, 1, 3, 0, 0), true);
        for (int i = 1; i <= 15; i++) {
            due("feed to " + i * 20, x.feed(0, 0, 0, 0, 0), i * 20);
        }
        due("feed above 300", x.feed(1, 1, 1, 1, 1), NONE);
        due("none come", x.about(5), 300);
        due("end(281)", x.end(281), 281);
        due("feed to 301", x.feed(0, 0, 0, 0, 0), NONE);
        due("none come to 281", x.about(5), 281);
        x.end(280);
        due("feed to 300", x.feed(-1, -1, -1, -1, -1), 300);
    }

    private void end() {
        of(7, "end");
        RoadOfDoors x = new RoadOfDoors(1);
        due("end(0)", x.end(0), 0);
        due("end(1) of none", x.end(1), NONE);
        x.feed(0, 0, 0, 0, 0);
        due("end(21)", x.end(21), NONE);
        for (int wrong : WRONG) {
            due("end(" + wrong + ")", x.end(wrong), NONE);
        }
        due("nothing is done", x.about(5), 20);
        due("end(20)", x.end(20), 20);
        due("end(7)", x.end(7), 7);
        due("about(5)", x.about(5), 7);
        due("end(8)", x.end(8), NONE);
        due("feed behind the first 7", x.feed(0, 0, 0, 0, 0), 27);
        Checks.put(x, "wait 1;opens");
        x.end(7);
        due("the first bytes alone", x.text(), 0);
    }

    private void text() {
        of(8, "text");
        RoadOfDoors x = new RoadOfDoors(1);
        due("an empty tape", x.text(), 0);
        due("wait", Checks.tell(x, "wait 3;"), 1);
        due("the tape is empty then", x.about(5), 0);
        due("a fault", Checks.tell(x, "wait 25;"), NONE);
        due("the tape is empty, too", x.about(5), 0);
        due("texts", x.about(1), 2);
        due("the third", Checks.tell(x, "opens 1=1;"), 2);
        due("the fourth", Checks.tell(x, " \n"), 3);
        due("a fifth", Checks.tell(x, "wait 1"), NONE);
        due("the tape stays", x.about(5), 6);
        due("it was not read", x.fault(0), 0);
        due("texts then", x.about(1), 4);
    }

    private void textsThatStand() {
        of(8, "text that stands");
        String[] good = {"", " ", "\n \n", "wait 0;", "wait 24;", "wait24;", "knock 1 with 0;", "knock 7 with 5;",
            "knock07with005;", "opens 1=1;", "opens1=1;", "opens 9999=1;", "opens 09999=1;", "opens 1<=2and 3>=4or 5#6;",
            "opens not not not not not not not not 1=1;", "opens ((((((((1))))))))=1;", "opens --------1=1;",
            "opens not not not not (-(-1))=1;", "opens not 1=1 and not 1=1 or not(1)=1;", "opens (1)+(1)=-(1);",
            "opens not(1)=1 and not not not not not not not 1=1;", "opens door+hour*rain-mood/gift>knocks+waited-load;",
            "opens (door+1)*-(2-load)/(-3)#-hour;", "opens 1-1=1- -1;", "opens 2=2;" + "wait1;".repeat(23),
            "wait1;".repeat(23) + "opens 2=2;", "opens" + " ".repeat(290) + "1=1;", "opens\n1\n=\n1\n;\n",
            "opens " + "0".repeat(291) + "<1;", "opens not 1=1" + " and not 1=1".repeat(12) + ";",
            "opens -1" + "+-1".repeat(12) + "=1;", "opens (1)" + "*(1)".repeat(12) + "=-(-(1));", "opens 1=1" + "+1".repeat(145) + ";"};
        for (String text : good) {
            RoadOfDoors x = new RoadOfDoors(1);
            Checks.put(x, text);
            due("bytes of " + text, x.about(5), text.length());
            due(text, x.text(), 0);
            due("fault(0) of " + text, x.fault(0), 0);
            due("fault(1) of " + text, x.fault(1), NONE);
        }
    }

    private void fault() {
        of(9, "fault");
        RoadOfDoors x = new RoadOfDoors(1);
        for (int what = -2; what < 4; what++) {
            due("ahead of any, fault(" + what + ")", x.fault(what), NONE);
        }
        Checks.tell(x, "wait 1;wait 30;");
        due("fault(0)", x.fault(0), 2);
        due("fault(1)", x.fault(1), 12);
        due("fault(2)", x.fault(2), NONE);
        for (int wrong : WRONG) {
            due("fault(" + wrong + ")", x.fault(wrong), NONE);
        }
        Checks.tell(x, "wait 1;");
        due("fault(0) without", x.fault(0), 0);
        due("fault(1) without", x.fault(1), NONE);
    }

    private void faultsByKind() {
        of(9, "fault by kind");
        Object[][] bad = {
            {"opens", 1, 5}, {"opens ", 1, 6}, {";", 1, 0}, {"  ;", 1, 2}, {"opens 1;", 1, 7}, {"opens 1=1", 1, 9},
            {"opens 1=1 \n", 1, 11}, {"opens (1=1);", 1, 8}, {"opens 1=1=1;", 1, 9}, {"opens 1=(1;", 1, 10},
            {"opens 1)=1;", 1, 7}, {"opens (1)=1 and;", 1, 15}, {"opens and 1=1;", 1, 6}, {"opens 1=not 1;", 1, 8},
            {"opens (not 1)=1;", 1, 7}, {"opens 1 not=1;", 1, 8}, {"opens 1=1 not 1=1;", 1, 10}, {"opens -not 1=1;", 1, 7},
            {"opens 1=1 or or 1=1;", 1, 13}, {"opens +1=1;", 1, 6}, {"opens 1* *1=1;", 1, 9}, {"opens 1 1=1;", 1, 8},
            {"opens with=1;", 1, 6}, {"opens Door=1;", 1, 6}, {"opens doors=1;", 1, 6}, {"opens 1==1;", 1, 8},
            {"opens 1=<1;", 1, 8}, {"opens 1< =1;", 1, 9}, {"opens 1!1;", 1, 7}, {"opens\t1=1;", 1, 5},
            {"opens\r1=1;", 1, 5}, {"opens \u00e91=1;", 1, 6}, {"opens \0", 1, 6}, {"wait 1;\0", 1, 7}, {"\0", 1, 0}, {"wait 1;\u00ff", 1, 7},
            {"Opens 1=1;", 1, 0},
            {"knock with 1;", 1, 6}, {"knock 1 with;", 1, 12}, {"knock 1 with 1", 1, 14}, {"knock door with 1;", 1, 6},
            {"knock -1 with 1;", 1, 6}, {"wait;", 1, 4}, {"wait 1 1;", 1, 7}, {"wait -1;", 1, 5}, {"wait", 1, 4},
            {"10000 opens", 1, 0}, {"opens 1 10000=1;", 1, 8}, {"knock 1 10000 1;", 1, 8}, {"wait 1;10000;", 1, 7},
            {"knock 0 with 0;", 2, 6}, {"knock 8 with 0;", 2, 6}, {"knock 10000 with 0;", 2, 6},
            {"knock 1 with 6;", 2, 13}, {"wait 25;", 2, 5}, {"wait 99999999999;", 2, 5}, {"opens 10000=1;", 2, 6},
            {"opens 1=4294967296;", 2, 8}, {"opens 1=1;wait 25;opens 1=1;", 2, 15}, {"opens 18446744073709551616=1;", 2, 6},
            {"opens (((((((((1", 3, 14}, {"opens ---------1=1;", 3, 14},
            {"opens not not not not not not not not not 1=1;", 3, 38},
            {"opens not not not not (-(-(1)))=1;", 3, 26}, {"opens not not not not not not not not (1)=1;", 3, 38},
            {"opens 1=((((((((-1;", 3, 16}, {"opens (1)+((((((((-1;", 3, 18}, {"opens 1=1 and ---------1=1;", 3, 22},
            {"opens 1=1;opens 1=1;", 4, 10}, {"opens 1=1;wait 1;opens", 4, 17}, {"wait1;opens 1=1;opens;", 4, 16},
            {"wait1;".repeat(25), 5, 144}, {"wait1;".repeat(24) + "knock", 5, 144}, {"wait1;".repeat(24) + "opens", 5, 144},
            {"opens 1=1;" + "wait1;".repeat(24), 5, 148}, {"opens 1=1;" + "wait1;".repeat(23) + "opens", 4, 148},
            {"wait1;".repeat(24) + ";", 1, 144}, {"wait1;".repeat(24) + " wait", 5, 145},
        };
        for (Object[] b : bad) {
            String text = (String) b[0];
            RoadOfDoors x = new RoadOfDoors(1);
            due(text, Checks.tell(x, text), NONE);
            due("fault(0) of " + text, x.fault(0), (Integer) b[1]);
            due("fault(1) of " + text, x.fault(1), (Integer) b[2]);
            due("no text of " + text, x.about(1), 0);
        }
    }

    /** A door 1 of mood 6, at hour 9 with rain 3, 2 knocks, gift 4, waited 5, load 7. */
    private void values() {
        of(11, "opens by value");
        String[] so = {"door=1", "hour=9", "rain=3", "mood=6", "gift=4", "knocks=2", "waited=5", "load=7",
            "1<2", "1<=1", "2>1", "2>=2", "2#3", "not 1=2", "not not 1=1", "not 1=2 and 1=1", "1=1 or 1=2 and 1=2",
            "1=2 and 1=2 or 1=1", "not 1=2 or 1=1", "7-2-1=4", "2+3*4=14", "8/2/2=2", "8/2*4=16", "9-4/2*2=5", "7/2=3",
            "-7/2=-3", "7/-2=-3", "(0-7)/(0-2)=3", "5/0=0", "-5/0=0", "5/(3-3)*7=0", "-2*-3=6", "--3=3", "1- -1=2",
            "9999*9999=1000*1000", "9999*9999-1=999*1001", "-9999*9999=-1000*1000", "-9999*9999+1=-999*1001",
            "9999*9999+9999*9999=1000*1000", "9999*9999*9999/9999=100", "9999*9999/1000=1000", "-9999*9999-1=-1000*1000",
            "(door+hour)*rain-mood/gift=29", "-(gift-load)=3", "1000*1000+1=1000*1000", "1000*999+999+1=1000*1000",
            "1=2 or 1=2 or 1=1", "1=1 and 1=1 and not 1=2", "((((((((1))))))))=1", "2*(3+4)*5=70", "not 2*(3+4)=13"};
        String[] not = {"door=0", "2<1", "1<1", "2<=1", "1>1", "1>2", "1>=2", "2#2", "1=2", "not 1=1", "1=1 and 1=2",
            "1=2 or 1=2", "not 1=2 and 1=2", "1=2 and 1=1 or 1=2", "1=1 and 1=2 or 1=2", "not 1=1 or 1=2", "mood=7",
            "not not 1=2", "1000*1000#999999+1", "rain=9", "load=0"};
        for (int i = 0; i < so.length + not.length; i++) {
            String ask = i < so.length ? so[i] : not[i - so.length];
            RoadOfDoors x = Edges.kept(2, "opens " + ask + ";");
            x.mood(1, 6);
            x.rain(9, 3);
            due(ask, x.opens(1, 9, 2, 4, 5, 7), i < so.length);
        }
    }

    private void keep() {
        of(10, "keep");
        RoadOfDoors x = new RoadOfDoors(2);
        due("keep(0, 0) ahead of texts", x.keep(0, 0), false);
        due("keep(0, NONE)", x.keep(0, NONE), true);
        Checks.tell(x, "opens 1=1;");
        Checks.tell(x, "wait 1;");
        due("keep(1, 1)", x.keep(1, 1), true);
        due("about(11)", x.about(11), 1);
        due("about(10)", x.about(10), NONE);
        due("keep(1, 0)", x.keep(1, 0), true);
        due("opens", x.opens(1, 0, 1, 0, 0, 0), true);
        due("keep(1, 2)", x.keep(1, 2), false);
        due("keep(1, 4)", x.keep(1, 4), false);
        due("keep(2, 0)", x.keep(2, 0), false);
        due("keep(-1, 0)", x.keep(-1, 0), false);
        due("keep(1, -2)", x.keep(1, -2), false);
        due("as it was", x.about(11), 0);
        due("keep(1, NONE)", x.keep(1, NONE), true);
        due("about(11) of none", x.about(11), NONE);
        due("opens without a rule", x.opens(1, 0, 1, 0, 0, 0), false);
    }

    private void opens() {
        of(11, "opens");
        RoadOfDoors x = Edges.kept(2, "opens 1=1;", "knock 1 with 1;");
        due("the least", x.opens(0, 0, 1, 0, 0, 0), true);
        due("the most", x.opens(0, 23, 7, 5, 9, 9), true);
        due("a rule without opens", x.opens(1, 0, 1, 0, 0, 0), false);
        x.hinge(0, false);
        int[] most = {1, 23, 7, 5, 9, 9};
        for (int i = 0; i < 6; i++) {
            int[] good = {0, 0, 1, 0, 0, 0};
            int[] bad = good.clone();
            bad[i] = most[i] + 1;
            due("above, " + i, x.opens(bad[0], bad[1], bad[2], bad[3], bad[4], bad[5]), false);
            bad[i] = good[i] - 1;
            due("below, " + i, x.opens(bad[0], bad[1], bad[2], bad[3], bad[4], bad[5]), false);
        }
        x.sets(0, 3, 0, 0);
        due("without a key", x.opens(1, 0, 1, 0, 0, 0), false);
        due("not hinged", x.opens(0, 0, 1, 0, 0, 0), true);
    }

    private void sets() {
        of(12, "sets");
        RoadOfDoors x = new RoadOfDoors(2);
        x.later(4);
        due("sets(9, 3, 23, 99)", x.sets(9, 3, 23, 99), true);
        int[] want = {0, 23, 0, 99, 9, 3};
        for (int what = 0; what < 6; what++) {
            due("traveller(" + what + ")", x.traveller(what), want[what]);
        }
        due("steps are forgotten", x.about(2), 0);
        x.later(1);
        int[] most = {9, 3, 23, 99};
        for (int i = 0; i < 4; i++) {
            for (int wrong : new int[] {-1, most[i] + 1, Integer.MIN_VALUE, Integer.MAX_VALUE}) {
                int[] told = {0, 0, 0, 0};
                told[i] = wrong;
                due("sets, " + wrong + " at " + i, x.sets(told[0], told[1], told[2], told[3]), false);
            }
        }
        due("steps are kept", x.about(2), 1);
        due("load is kept", x.traveller(4), 9);
    }

    private void knock() {
        of(13, "knock");
        RoadOfDoors x = Edges.kept(4, "opens knocks=3 and gift>=2;", "wait 1;");
        x.keep(2, NONE);
        x.sets(0, 2, 22, 9);
        due("knocks not so many", x.knock(2, 5), 0);
        due("the gift is kept", x.traveller(3), 9);
        due("he waited", x.traveller(2), 1);
        due("knock(0, 0)", x.knock(0, 0), NONE);
        due("knock(8, 0)", x.knock(8, 0), NONE);
        due("knock(3, -1)", x.knock(3, -1), NONE);
        due("knock(3, 6)", x.knock(3, 6), NONE);
        due("hour", x.traveller(1), 23);
        due("knock(3, 4)", x.knock(3, 4), 1);
        due("the gift is given", x.traveller(3), 5);
        due("the next door", x.traveller(0), 1);
        due("hour by 24", x.traveller(1), 0);
        due("waited at the next", x.traveller(2), 0);
        due("by a key", x.knock(1, 2), 1);
        due("the gift is given by a key", x.traveller(3), 3);
        due("without a rule", x.knock(7, 3), 0);
        due("above the purse", x.knock(7, 4), NONE);
        x.hinge(2, false);
        due("not hinged", x.knock(7, 1), 1);
        due("the gift is given there", x.traveller(3), 2);
        x.keep(3, 0);
        for (int i = 0; i < 12; i++) {
            due("again", x.knock(1, 0), 0);
        }
        due("waited, 9 at most", x.traveller(2), 9);
        due("the last", x.knock(3, 2), 1);
        due("through", x.traveller(0), 4);
        due("nothing more", x.knock(1, 0), NONE);
        due("his purse", x.traveller(3), 0);
        RoadOfDoors y = Edges.kept(1, "opens load=4 and waited=2 and hour=1 and door=0 and mood=5;");
        y.mood(0, 5);
        y.sets(4, 0, 23, 0);
        y.later(2);
        due("by all that is", y.knock(1, 0), 1);
    }

    private void later() {
        of(14, "later");
        RoadOfDoors x = Edges.kept(1, "opens 1=1;");
        x.sets(0, 0, 20, 0);
        due("later(0)", x.later(0), 20);
        due("no step", x.about(2), 0);
        due("later(3)", x.later(3), 23);
        due("waited", x.traveller(2), 3);
        due("later(1)", x.later(1), 0);
        due("later(24)", x.later(24), 0);
        due("waited at most", x.traveller(2), 9);
        due("steps", x.about(2), 28);
        due("later(25)", x.later(25), NONE);
        for (int wrong : WRONG) {
            due("later(" + wrong + ")", x.later(wrong), NONE);
        }
        due("hour", x.traveller(1), 0);
        x.knock(1, 0);
        due("through", x.later(1), NONE);
        due("through, later(0)", x.later(0), NONE);
    }

    private void played() {
        of(15, "played");
        RoadOfDoors x = Edges.kept(2, "opens waited>=2 or gift=3;", "wait 0;knock 1 with 0;opens 1=1;wait 1;knock 2 with 1;",
                "opens gift=3;knock 1 with 3;", "knock 1 with 3;knock 1 with 3;wait 0;");
        x.keep(1, 0);
        x.sets(0, 0, 0, 7);
        due("all is done", x.played(1), NONE);
        due("door", x.traveller(0), 1);
        due("hour", x.traveller(1), 3);
        due("purse", x.traveller(3), 6);
        due("steps", x.about(2), 3);
        due("a gift", x.played(2), NONE);
        due("through", x.traveller(0), 2);
        due("steps then", x.about(2), 4);
        due("the clause's number among all", x.played(2), 1);
        x.sets(0, 0, 0, 5);
        due("above the purse", x.played(3), 1);
        due("what was done stays", x.traveller(0), 1);
        due("its purse", x.traveller(3), 2);
        x.sets(0, 0, 0, 6);
        due("waiting behind the last", x.played(3), 2);
        due("played(4)", x.played(4), -2);
        for (int wrong : WRONG) {
            due("played(" + wrong + ")", x.played(wrong), -2);
        }
        RoadOfDoors y = new RoadOfDoors(1);
        due("none told", y.played(0), -2);
        Checks.tell(y, "");
        Checks.tell(y, "opens 1=1;");
        Checks.tell(y, "wait 2;wait 24;");
        y.hinge(0, false);
        due("waits", y.played(2), NONE);
        due("each hour a step", y.about(2), 26);
        y.knock(1, 0);
        due("without clauses, through", y.played(0), NONE);
        due("opens alone, through", y.played(1), NONE);
        due("waits, through", y.played(2), 0);
    }

    private void undo() {
        of(16, "undo");
        RoadOfDoors x = Edges.kept(2, "opens gift=2;");
        x.sets(3, 0, 22, 9);
        due("none", x.undo(), NONE);
        x.knock(1, 0);
        x.later(1);
        x.knock(1, 2);
        x.later(2);
        due("taken back", x.undo(), 4);
        due("waited", x.traveller(2), 1);
        due("again", x.undo(), 3);
        due("again", x.undo(), 2);
        int[] want = {0, 0, 2, 9, 3, 0};
        for (int what = 0; what < 6; what++) {
            due("traveller(" + what + ")", x.traveller(what), want[what]);
        }
        due("again", x.undo(), 1);
        due("again", x.undo(), 0);
        due("hour", x.traveller(1), 22);
        due("none more", x.undo(), NONE);
        for (int i = 0; i < 37; i++) {
            x.later(1);
        }
        due("the latest 30", x.about(2), 30);
        for (int i = 29; i >= 0; i--) {
            due("back to " + i, x.undo(), i);
            due("hour of " + i, x.traveller(1), (22 + 7 + i) % 24);
            due("waited of " + i, x.traveller(2), Math.min(9, 7 + i));
        }
        due("the first 7 stay", x.undo(), NONE);
        x.knock(1, 2);
        x.knock(1, 2);
        due("through is taken back", x.undo(), 1);
        due("before the last door", x.traveller(0), 1);
    }

    private void traveller() {
        of(17, "traveller");
        RoadOfDoors x = Edges.kept(3, "opens 1=1;");
        x.sets(5, 6, 7, 80);
        x.knock(1, 4);
        x.hinge(0, true);
        x.keep(1, NONE);
        x.sets(5, 5, 7, 80);
        x.knock(1, 4);
        x.knock(1, 0);
        int[] want = {1, 9, 1, 76, 5, 5};
        for (int what = 0; what < 6; what++) {
            due("traveller(" + what + ")", x.traveller(what), want[what]);
        }
        due("traveller(6)", x.traveller(6), NONE);
        for (int wrong : WRONG) {
            due("traveller(" + wrong + ")", x.traveller(wrong), NONE);
        }
    }

    private void way() {
        of(18, "way");
        RoadOfDoors x = Edges.kept(2, "opens gift>=2 or waited=3;");
        wayIs(x, 0, 48, 9, false, 0, 0, 0, 0, 10, 0, 0, 0, 10);
        wayIs(x, 0, 8, 0, false, 0, 0, 0, 0, 10, 0, 0, 0, 10);
        wayIs(x, 0, 7, 9, false, 2, 0, 0, 0, 10, 12);
        wayIs(x, 0, 4, 9, false, 4, 12, 12);
        wayIs(x, 0, 2, 4, false, 4, 12, 12);
        noWay(x, 0, 4, 3, false);
        noWay(x, 0, 1, 99, false);
        wayIs(x, 0, 48, 99, true, 4, 12, 12);
        wayIs(x, 0, 48, 3, true, 2, 0, 0, 0, 10, 12);
        wayIs(x, 0, 48, 1, true, 0, 0, 0, 0, 10, 0, 0, 0, 10);
        wayIs(x, 2, 48, 0, false, 0, 0, 0, 0, 10, 10);
        wayIs(x, 3, 2, 0, true, 0, 10, 10);
        int[][] most = {{0, 9}, {0, 3}, {0, 23}, {1, 48}, {0, 99}};
        for (int i = 0; i < 5; i++) {
            int[] a = {0, 0, 0, 48, 9};
            for (int wrong : new int[] {most[i][0] - 1, most[i][1] + 1, Integer.MIN_VALUE, Integer.MAX_VALUE}) {
                a[i] = wrong;
                due("way, " + wrong + " at " + i, x.way(a[0], a[1], a[2], a[3], a[4], false, -1), -3);
                due("way, soonest, " + wrong + " at " + i, x.way(a[0], a[1], a[2], a[3], a[4], true, -2), -3);
            }
            a[i] = most[i][1];
            due("the most at " + i, x.way(a[0], a[1], a[2], a[3], a[4], false, -1), 0);
        }
        due("what is done stays", x.traveller(1), 0);
        due("the traveller is not asked", x.about(2), 0);
    }

    private void wayIs(RoadOfDoors x, int keys, int n, int purse, boolean soonest, int gifts, int... acts) {
        String way = "way of keys " + keys + " in " + n + " for " + purse + " ";
        due(way + "gifts", x.way(0, keys, 0, n, purse, soonest, NONE), gifts);
        due(way + "hours", x.way(0, keys, 0, n, purse, soonest, -2), acts.length);
        for (int i = 0; i < acts.length; i++) {
            due(way + "hour " + i, x.way(0, keys, 0, n, purse, soonest, i), acts[i]);
        }
        due(way + "behind", x.way(0, keys, 0, n, purse, soonest, acts.length), -3);
        due(way + "far behind", x.way(0, keys, 0, n, purse, soonest, Integer.MAX_VALUE), -3);
        due(way + "no what", x.way(0, keys, 0, n, purse, soonest, -3), -3);
    }

    private void noWay(RoadOfDoors x, int keys, int n, int purse, boolean soonest) {
        for (int what = -3; what < 3; what++) {
            due("no way in " + n + " for " + purse, x.way(0, keys, 0, n, purse, soonest, what), -3);
        }
    }

    private void wayByOrder() {
        of(18, "way by order");
        RoadOfDoors x = Edges.kept(2, "opens 1=1;");
        wayIs(x, 0, 48, 9, false, 0, 10, 10);
        x = Edges.kept(1, "opens knocks>3 and gift>=2 or knocks=7 and gift=2 or knocks=3 and gift=4;");
        wayIs(x, 0, 3, 9, false, 2, 42);
        // Waiting first, of like gifts and hours.
        x = Edges.kept(2, "opens door=0 or hour=2;");
        wayIs(x, 0, 48, 9, false, 0, 0, 10, 10);
        wayIs(x, 0, 48, 9, true, 0, 0, 10, 10);
        // One gift of 1 at either door: the later it is, the longer he waits first.
        x = Edges.kept(2, "opens hour=0 and gift=1 and door=0 or hour=1 and gift=0 and door=0 or hour=2 and door=1 and gift=1"
                + " or hour=2 and door=1 and waited=1 and gift=0;");
        wayIs(x, 0, 3, 9, false, 1, 0, 10, 11);
        wayIs(x, 0, 3, 9, true, 1, 0, 10, 11);
        // A greater gift that these knocks don't need is never given; a smaller one may not open.
        x = Edges.kept(1, "opens gift=3 or gift=5;");
        wayIs(x, 0, 1, 9, false, 3, 13);
        noWay(x, 0, 1, 2, false);
        // Hours go round, and so does the rain.
        x = Edges.kept(1, "opens rain=5 and gift=waited-15+load;");
        x.rain(3, 5);
        due("round the clock", x.way(9, 0, 4, 24, 9, false, -2), 24);
        due("its gift", x.way(9, 0, 4, 24, 9, false, -1), 3);
        due("its act", x.way(9, 0, 4, 24, 9, false, 23), 13);
        due("23 hours are too few", x.way(9, 0, 4, 23, 9, false, -2), -3);
        due("another load", x.way(8, 0, 4, 24, 9, false, 23), 12);
        x.rain(5, 5);
        x.rain(3, 4);
        due("another hour", x.way(9, 0, 20, 24, 9, false, -2), 10);
    }

    private void waySoonest() {
        of(18, "way, soonest");
        RoadOfDoors x = Edges.kept(2, "opens gift=5 or waited=1 and gift=2 or waited>=3 and gift>=1;");
        wayIs(x, 0, 48, 99, true, 10, 15, 15);
        wayIs(x, 0, 48, 9, true, 7, 0, 12, 15);
        wayIs(x, 0, 48, 6, true, 4, 0, 12, 0, 12);
        wayIs(x, 0, 48, 3, true, 3, 0, 0, 0, 11, 0, 12);
        wayIs(x, 0, 48, 2, true, 2, 0, 0, 0, 11, 0, 0, 0, 11);
        noWay(x, 0, 48, 1, true);
        noWay(x, 0, 5, 3, true);
        wayIs(x, 0, 48, 99, false, 2, 0, 0, 0, 11, 0, 0, 0, 11);
        RoadOfDoors y = Edges.kept(8, "opens waited>=5;");
        due("48 hours for 8 doors", y.way(0, 0, 0, 48, 0, true, -2), 48);
        due("the last hour", y.way(0, 0, 0, 48, 0, true, 47), 10);
        due("47 hours", y.way(0, 0, 0, 47, 0, true, -2), -3);
        RoadOfDoors z = Edges.kept(8, "opens gift=5;");
        due("all gifts", z.way(0, 0, 0, 48, 40, true, -1), 40);
        due("one less", z.way(0, 0, 0, 48, 39, false, -1), -3);
    }

    /** What he gives falls hour by hour from the first at which the door opens. */
    private void wayByEachHour() {
        of(18, "way by each hour");
        for (int first = 0; first < 18; first++) {
            RoadOfDoors x = Edges.kept(1, "opens hour>=" + first + " and gift+hour-" + first + ">=5;");
            for (int purse = 0; purse <= 6; purse++) {
                int gift = Math.min(5, purse);
                due("hours from " + first + " for " + purse, x.way(0, 0, 0, 48, purse, true, -2), first + 6 - gift);
                due("gifts from " + first + " for " + purse, x.way(0, 0, 0, 48, purse, true, -1), gift);
                due("no hour to wait", x.way(0, 0, 0, first + 5 - gift, purse, true, -1), -3);
                due("cheapest from " + first + " for " + purse, x.way(0, 0, 0, 48, purse, false, -2), first + 6);
            }
        }
    }

    private void wayOfTheLast() {
        of(18, "way of the last");
        RoadOfDoors x = Edges.kept(8, "wait 1;", "wait 1;", "wait 1;",
                "opens door*hour*load*waited*gift=7*23*9*9*5 and knocks=7 and mood=9;");
        x.mood(7, 9);
        due("the last of all", x.way(9, 127, 7, 17, 5, false, 16), 75);
        due("its hours", x.way(9, 127, 7, 17, 5, true, -2), 17);
        due("another load", x.way(8, 127, 7, 17, 5, false, 16), -3);
        x.guest(9, 127, 7, 5);
        due("what it earns", x.earns(7), 5);
    }

    /** What ways and rounds found once is found anew, when what they rest on is another. */
    private void waysAnew() {
        of(18, "ways anew");
        RoadOfDoors x = Edges.kept(2, "opens gift>=mood+rain;", "opens gift>=1;");
        x.keep(1, 0);
        x.guest(0, 0, 0, 9);
        due("gifts", x.way(0, 0, 0, 2, 9, false, -1), 0);
        due("rounds", x.rounds(0), 1);
        x.mood(0, 3);
        due("gifts by a mood", x.way(0, 0, 0, 2, 9, false, -1), 3);
        due("rounds by a mood", x.rounds(0), 0);
        due("earns by a mood", x.earns(0), 3);
        x.image();
        x.rain(0, 1);
        due("gifts in rain", x.way(0, 0, 0, 2, 9, false, -1), 4);
        due("earns: waits for less", x.earns(0), 3);
        due("rounds by the other's", x.rounds(1), 1);
        x.moods(61);
        due("gifts by moods 3 and 4", x.way(0, 0, 0, 2, 9, false, -1), 3 + 1 + 4);
        x.back();
        due("gifts behind back", x.way(0, 0, 0, 2, 9, false, -1), 3);
        due("rounds behind back", x.rounds(0), 0);
        x.hinge(0, false);
        x.mood(1, 1);
        due("rounds, not hinged", x.rounds(1), 0);
        x.hinge(0, true);
        x.mood(0, 0);
        due("rounds, hinged", x.rounds(0), 1);
        x.hinge(0, false);
        due("rounds, not hinged again", x.rounds(0), 0);
        x.hinge(0, true);
        due("rounds, hinged again", x.rounds(0), 1);
        Checks.tell(x, "opens gift>=2;");
        due("rounds by a text more", x.rounds(0), 2);
        x.keep(0, 2);
        due("rounds by its own", x.rounds(NONE), 1);
        due("rounds of the other", x.rounds(1), 2);
        x.keep(1, 2);
        due("rounds by their own", x.rounds(NONE), 0);
        x.clear();
        x.guest(0, 0, 0, 3);
        due("rounds by another guest", x.rounds(0), 1);
        x.guest(0, 0, 0, 9);
        due("rounds by a guest more", x.rounds(0), 2);
    }

    private void guest() {
        of(19, "guest");
        RoadOfDoors x = new RoadOfDoors(2);
        int[] most = {9, 3, 23, 99};
        for (int i = 0; i < 4; i++) {
            for (int wrong : new int[] {-1, most[i] + 1, Integer.MIN_VALUE, Integer.MAX_VALUE}) {
                int[] a = {0, 0, 0, 0};
                a[i] = wrong;
                due("guest, " + wrong + " at " + i, x.guest(a[0], a[1], a[2], a[3]), NONE);
            }
        }
        due("about(3)", x.about(3), 0);
        due("the first", x.guest(9, 3, 23, 99), 1);
        for (int i = 2; i <= 6; i++) {
            due("guest " + i, x.guest(0, 0, 0, 0), i);
        }
        due("a seventh", x.guest(0, 0, 0, 0), NONE);
        due("about(3) then", x.about(3), 6);
    }

    private void clear() {
        of(20, "clear");
        RoadOfDoors x = Edges.kept(1, "opens gift=2;");
        due("none", x.clear(), 0);
        x.guest(0, 0, 0, 9);
        x.guest(0, 0, 0, 9);
        due("earns", x.earns(0), 4);
        due("two", x.clear(), 2);
        due("about(3)", x.about(3), 0);
        due("earns then", x.earns(0), 0);
        due("anew", x.guest(0, 0, 0, 1), 1);
        due("earns of who can't pay", x.earns(0), 0);
    }

    private void earns() {
        of(21, "earns");
        RoadOfDoors x = Edges.kept(2, "opens gift>=2;", "opens gift=load;");
        x.guest(3, 0, 0, 9);
        due("door 0", x.earns(0), 2);
        due("door 1", x.earns(1), 3);
        x.guest(5, 1, 0, 9);
        due("by a key nothing", x.earns(0), 2);
        due("both", x.earns(1), 8);
        x.guest(4, 0, 0, 5);
        due("who can't pay both pays none", x.earns(0), 2);
        x.guest(4, 0, 0, 6);
        due("who can", x.earns(0), 4);
        due("at the other", x.earns(1), 12);
        x.hinge(0, false);
        due("not hinged", x.earns(0), 0);
        due("the other then", x.earns(1), 16);
        x.hinge(0, true);
        due("earns(2)", x.earns(2), NONE);
        for (int wrong : WRONG) {
            due("earns(" + wrong + ")", x.earns(wrong), NONE);
        }
        x.keep(0, NONE);
        due("without a rule", x.earns(1), 5);
        due("at it", x.earns(0), 0);
        RoadOfDoors y = Edges.kept(1, "opens gift=1 and hour=23 or gift=2 and hour=3;");
        y.guest(0, 0, 0, 9);
        due("within 24 hours", y.earns(0), 1);
        y.clear();
        y.guest(0, 0, 4, 1);
        y.rain(0, 1);
        due("the cheapest", y.earns(0), 1);
        RoadOfDoors z = Edges.kept(3, "opens waited>=8 or gift=1;");
        z.guest(0, 0, 0, 9);
        due("24 hours are too few to wait for all", z.earns(0) + z.earns(1) + z.earns(2), 1);
        due("waiting first: the last is paid", z.earns(2), 1);
    }

    private void even() {
        of(22, "even");
        RoadOfDoors x = Edges.kept(2, "opens gift>=1;", "opens gift>=2;", "wait 1;");
        x.keep(1, 0);
        due("without guests", x.even(), NONE);
        x.guest(0, 0, 0, 4);
        due("the lowest", x.even(), 0);
        x.keep(0, 1);
        due("the next", x.even(), 1);
        due("nothing is changed", x.about(11), 0);
        x.keep(1, 1);
        due("even", x.even(), NONE);
        x.keep(0, NONE);
        due("from none", x.even(), 0);
        x.keep(0, 2);
        due("from one that never opens", x.even(), 0);
        x.hinge(0, false);
        due("not hinged: the other keeps 2", x.even(), NONE);
        x.hinge(0, true);
        x.keep(0, 1);
        x.clear();
        x.guest(0, 0, 0, 3);
        due("too dear together: each would take 1", x.even(), 0);
        x.clear();
        x.guest(0, 3, 0, 9);
        due("keys for all", x.even(), NONE);
    }

    private void rounds() {
        of(23, "rounds");
        RoadOfDoors x = Edges.kept(2, "opens gift>=1;", "opens gift>=2;", "opens gift>=2 and knocks=1;");
        x.keep(1, 0);
        due("without guests", x.rounds(NONE), 0);
        due("as it is", x.rounds(1), 0);
        x.guest(0, 0, 0, 3);
        due("one changed", x.rounds(NONE), 1);
        due("of like ones the lowest", x.rounds(0), 1);
        due("the other keeps its own", x.rounds(1), 0);
        due("nothing is changed", x.about(10), 0);
        x.keep(0, 2);
        due("its own, though not the lowest", x.rounds(NONE), 0);
        due("its own", x.rounds(0), 2);
        x.guest(0, 0, 0, 4);
        due("more to earn", x.rounds(NONE), 0);
        x.clear();
        x.guest(0, 0, 0, 4);
        due("the other changes", x.rounds(NONE), 1);
        due("door 0", x.rounds(0), 2);
        due("door 1", x.rounds(1), 1);
        x.keep(0, NONE);
        x.keep(1, NONE);
        due("none can begin: none keeps all shut", x.rounds(NONE), 0);
        due("none stays", x.rounds(0), NONE);
        due("rounds(2)", x.rounds(2), -2);
        for (int wrong : new int[] {-2, Integer.MIN_VALUE, Integer.MAX_VALUE}) {
            due("rounds(" + wrong + ")", x.rounds(wrong), -2);
        }
        x.keep(1, 0);
        due("behind one that opens", x.rounds(NONE), 1);
        due("the lowest of the most", x.rounds(0), 1);
        x.hinge(0, false);
        due("behind a hinge changed", x.rounds(1), 1);
        x.mood(0, 1);
        due("asked again", x.rounds(0), NONE);
    }

    /** Each door takes the rule that suits the other's as it is then: so they go round and round. */
    private void roundsWithoutEnd() {
        of(23, "rounds without end");
        RoadOfDoors x = Edges.kept(2, "opens gift>=2 or hour=12 and gift=0;", "opens gift>=5 or hour=8 and gift=1;");
        x.keep(1, 0);
        x.guest(0, 0, 11, 9);
        due("no end", x.rounds(NONE), -2);
        due("of door 0", x.rounds(0), -2);
        due("of door 1", x.rounds(1), -2);
        due("of door 2", x.rounds(2), -2);
        due("nothing is changed", x.about(10), 0);
        x.clear();
        due("without guests", x.rounds(NONE), 0);
    }

    /** Found by search: rules that settle behind 20 rounds. */
    private void roundsToTheLast() {
        of(23, "rounds to the last");
        RoadOfDoors x = Edges.kept(8, "opens gift*2>=door+4 and door#0 or hour=12 and gift>=2 or hour=3 and gift>=4;",
                "opens gift>=load-5 or hour<6 and gift>=1 or waited>=2 and gift>=3 or gift>=mood-0;",
                "opens hour<0 and gift>=3 and door#6 or gift>=mood-7 or gift>=load-0 or gift>=mood-2;", "opens gift>=3;");
        begins(x, 984, new int[] {2, 0, 2, 2, 1, 3, 1, 0}, new int[][] {{9, 0, 19, 18}, {9, 0, 21, 82}, {6, 0, 23, 8}});
        due("20 rounds", x.rounds(NONE), 20);
        int[] then = new int[8];
        for (int door = 0; door < 8; door++) {
            then[door] = x.rounds(door);
        }
        begins(x, 984, then, new int[0][]);
        due("then nothing changes", x.rounds(NONE), 0);
        due("and it is even", x.even(), NONE);
    }

    private static void begins(RoadOfDoors x, int seed, int[] rules, int[][] guests) {
        x.moods(seed);
        for (int door = 0; door < rules.length; door++) {
            x.keep(door, rules[door]);
        }
        for (int[] g : guests) {
            x.guest(g[0], g[1], g[2], g[3]);
        }
    }

    private void seen() {
        of(24, "seen");
        RoadOfDoors x = new RoadOfDoors(2);
        int[] least = {0, 0, 1, 0, 0};
        int[] most = {1, 23, 7, 5, 9};
        for (int i = 0; i < 5; i++) {
            for (int wrong : new int[] {least[i] - 1, most[i] + 1, Integer.MIN_VALUE, Integer.MAX_VALUE}) {
                int[] a = least.clone();
                a[i] = wrong;
                due("seen, " + wrong + " at " + i, x.seen(a[0], a[1], a[2], a[3], a[4], true), NONE);
            }
        }
        due("about(4)", x.about(4), 0);
        due("the most", x.seen(1, 23, 7, 5, 9, true), 1);
        due("the least", x.seen(0, 0, 1, 0, 0, false), 2);
        for (int i = 3; i <= 20; i++) {
            due("seen " + i, x.seen(0, 0, 1, 0, 0, false), i);
        }
        due("a twenty-first", x.seen(0, 0, 1, 0, 0, false), NONE);
        due("about(4) then", x.about(4), 20);
    }

    private void kept() {
        of(25, "kept");
        RoadOfDoors x = new RoadOfDoors(2);
        due("nothing told", x.kept(0, 0), 16);
        Checks.tell(x, "opens gift>=2;");
        Checks.tell(x, "opens gift>=load and mood=0;");
        Checks.tell(x, "wait 1;");
        due("nothing seen", x.kept(1, 9), 23);
        x.seen(1, 3, 1, 1, 2, false);
        due("not opened", x.kept(1, 9), 23);
        due("of another load", x.kept(1, 1), 21);
        due("at the other door", x.kept(0, 1), 23);
        x.seen(1, 3, 1, 2, 2, true);
        due("opened", x.kept(1, 2), 3);
        due("not by a load of 3", x.kept(1, 3), 1);
        x.mood(1, 4);
        due("by its mood as it is", x.kept(1, 2), 1);
        x.mood(1, 0);
        x.hinge(1, false);
        due("as hinged", x.kept(1, 2), 3);
        x.keep(1, 2);
        due("whatever its rule", x.kept(1, 2), 3);
        due("the first of door 0", x.kept(0, 0), 23);
        x.seen(0, 0, 1, 5, 0, true);
        due("seen alone", x.kept(0, 0), 3);
        Checks.tell(x, "opens rain=6 and knocks=1 and hour=3 and waited=2 and door=1 and gift=2;");
        due("not in this rain", x.kept(1, 2), 3);
        x.rain(3, 6);
        due("in rain as it is", x.kept(1, 2), 11);
        x.seen(1, 3, 1, 2, 2, false);
        due("against itself", x.kept(1, 2), 0);
        due("Edges.kept(2, 0)", x.kept(2, 0), NONE);
        due("Edges.kept(0, 10)", x.kept(0, 10), NONE);
        for (int wrong : WRONG) {
            due("kept(" + wrong + ", 0)", x.kept(wrong, 0), NONE);
            due("Edges.kept(0, " + wrong + ")", x.kept(0, wrong), NONE);
        }
    }

    private void imageAndBack() {
        of(26, "image");
        RoadOfDoors x = Edges.kept(2, "opens gift=1;");
        x.rain(5, 6);
        x.mood(1, 7);
        x.hinge(1, false);
        x.sets(4, 2, 10, 50);
        x.guest(0, 0, 0, 9);
        x.seen(0, 0, 1, 0, 0, true);
        x.later(1);
        x.knock(1, 1);
        due("image", x.image(), 1);
        int[] abouts = new int[60];
        int[] ones = new int[6];
        for (int what = 0; what < 60; what++) {
            abouts[what] = x.about(what);
        }
        for (int what = 0; what < 6; what++) {
            ones[what] = x.traveller(what);
        }
        x.knock(1, 0);
        due("through", x.traveller(0), 2);
        x.undo();
        x.undo();
        x.undo();
        x.rain(5, 0);
        x.rain(6, 9);
        x.moods(77);
        x.hinge(1, true);
        x.hinge(0, false);
        x.keep(0, NONE);
        x.clear();
        x.guest(9, 3, 23, 1);
        x.guest(9, 3, 23, 2);
        x.seen(1, 1, 1, 1, 1, false);
        Checks.tell(x, "opens 1=1;");
        x.sets(0, 0, 0, 0);
        of(27, "back");
        due("back", x.back(), 1);
        for (int what = 0; what < 60; what++) {
            due("about(" + what + ")", x.about(what), abouts[what]);
        }
        for (int what = 0; what < 6; what++) {
            due("traveller(" + what + ")", x.traveller(what), ones[what]);
        }
        due("the guest of then", x.earns(0), 1);
        due("what was seen then", x.kept(0, 0), 0);
        due("step back", x.undo(), 1);
        due("before door", x.traveller(0), 0);
        due("purse", x.traveller(3), 50);
        due("step back", x.undo(), 0);
        due("hour", x.traveller(1), 10);
        due("the image stays", x.back(), 1);
        due("steps again", x.about(2), 2);
        x.knock(1, 0);
        due("an image of who is through", x.image(), 2);
        due("back to it", x.back(), 2);
    }

    private void imageHoldsNoTape() {
        of(27, "back but the tape and the latest fault");
        RoadOfDoors x = new RoadOfDoors(1);
        Checks.tell(x, "wait;");
        x.image();
        Checks.tell(x, "wait 30;");
        x.feed(1, 2, 3, 4, 5);
        due("back", x.back(), 0);
        due("the tape", x.about(5), 20);
        due("the latest fault", x.fault(0), 2);
        due("its place", x.fault(1), 5);
    }

    private void textsBehindBack() {
        of(27, "texts behind back");
        RoadOfDoors x = Edges.kept(1, "opens gift=1;");
        x.image();
        Checks.tell(x, "opens gift=2;");
        x.keep(0, 1);
        x.guest(0, 0, 0, 9);
        due("way by the second", x.way(0, 0, 0, 1, 9, false, -1), 2);
        due("rounds by the second", x.rounds(0), 1);
        x.back();
        due("texts", x.about(1), 1);
        due("the second is no text", x.played(1), -2);
        due("nor a rule", x.keep(0, 1), false);
        due("another second", Checks.tell(x, "opens gift=4;"), 1);
        x.keep(0, 1);
        due("way by the other second", x.way(0, 0, 0, 1, 9, false, -1), 4);
        due("the guest is gone", x.earns(0), 0);
        due("the first is as it was", x.keep(0, 0) && x.opens(0, 0, 1, 1, 0, 0), true);
    }

    private void about() {
        of(28, "about");
        RoadOfDoors x = Edges.kept(3, "opens 1=1;", "wait 1;");
        x.later(2);
        x.guest(0, 0, 0, 0);
        x.seen(0, 0, 1, 0, 0, true);
        x.seen(0, 0, 1, 0, 0, true);
        x.seen(0, 0, 1, 0, 0, true);
        x.feed(0, 0, 0, 0, 0);
        x.end(17);
        x.mood(2, 9);
        x.hinge(2, false);
        x.rain(0, 4);
        x.rain(23, 8);
        int[] want = {3, 2, 2, 1, 3, 17};
        for (int what = 0; what < 6; what++) {
            due("about(" + what + ")", x.about(what), want[what]);
        }
        due("about(10)", x.about(10), 0);
        due("about(12)", x.about(12), 1);
        due("about(20)", x.about(20), 0);
        due("about(22)", x.about(22), 19);
        due("about(30)", x.about(30), 4);
        due("about(53)", x.about(53), 8);
        for (int wrong : new int[] {-1, -2, 6, 9, 13, 19, 23, 29, 54, 100, Integer.MIN_VALUE, Integer.MAX_VALUE}) {
            due("about(" + wrong + ")", x.about(wrong), -2);
        }
    }
}
