/** The edges of what was seen, by what doors can be kept, of the image and of what about tells, sentence by sentence. */
public final class MemoryEdgesTest {
    private static final int NONE = RoadOfDoors.NONE;

    private final Edges t = new Edges();

    public static void main(String[] args) {
        MemoryEdgesTest all = new MemoryEdgesTest();
        all.seenAtMost();
        all.seenOfOthers();
        all.keptByEachText();
        all.keptByNone();
        all.keptByAllSeen();
        all.keptByWhatWasSeen();
        all.keptByWhatIs();
        all.keptAsHinged();
        all.keptOfOthers();
        all.imageOfEachThing();
        all.imageOfSteps();
        all.imageOfGuests();
        all.imageOfSeen();
        all.imageOfTexts();
        all.imageWithoutTape();
        all.imageStays();
        all.imageAnew();
        all.doorAnswered();
        all.aboutEach();
        all.aboutOthers();
        all.t.end();
    }

    // ---- seen and kept

    private void seenAtMost() {
        t.says("SEEN (20 at most)");
        RoadOfDoors x = Edges.told(2, "opens gift>2;");
        for (int i = 1; i <= 20; i++) {
            t.due("seen " + i, x.seen(1, i, 1, i < 20 ? 3 : 2, 0, i < 20), i);
            t.due("about(4)", x.about(4), i);
            t.due("the text fits", x.kept(1, 0), 1);
        }
        int[] before = Edges.all(x);
        t.due("a 21st", x.seen(1, 0, 1, 0, 0, true), NONE);
        t.due("at another door", x.seen(0, 0, 1, 0, 0, true), NONE);
        t.stays("no room", x, before);
        t.due("the 21st is not looked at", x.kept(1, 0), 1);
        t.due("nor that at the other", x.kept(0, 0), 17);
        RoadOfDoors y = Edges.told(1, "opens gift>2;");
        for (int i = 1; i <= 19; i++) {
            y.seen(0, i, 1, 3, 0, true);
        }
        t.due("19 fit", y.kept(0, 0), 1);
        t.due("the 20th", y.seen(0, 0, 1, 2, 0, true), 20);
        t.due("it is looked at", y.kept(0, 0), 0);
    }

    private void seenOfOthers() {
        t.says("SEEN: how many there are. NONE for others, or if there are 20.");
        int[] low = {0, 0, 1, 0, 0};
        int[] high = {1, 23, 7, 5, 9};
        RoadOfDoors x = new RoadOfDoors(2);
        t.due("none at first", x.about(4), 0);
        int[] before = Edges.all(x);
        for (int i = 0; i < 5; i++) {
            for (int wrong : Edges.outside(low[i], high[i])) {
                int[] of = low.clone();
                of[i] = wrong;
                t.due("seen, " + wrong + " at " + i, seen(x, of, true), NONE);
                of = high.clone();
                of[i] = wrong;
                t.due("not opened, " + wrong + " at " + i, seen(x, of, false), NONE);
            }
        }
        t.stays("seen of others", x, before);
        t.due("nothing is looked at", x.kept(0, 0) + x.kept(1, 0), 32);
        for (int i = 0; i < 5; i++) {
            int[] of = low.clone();
            of[i] = high[i];
            t.due("the most at " + i, seen(x, of, true), 2 * i + 1);
            of = high.clone();
            of[i] = low[i];
            t.due("the least at " + i, seen(x, of, true), 2 * i + 2);
        }
    }

    private static int seen(RoadOfDoors x, int[] of, boolean opened) {
        return x.seen(of[0], of[1], of[2], of[3], of[4], opened);
    }

    private void keptByEachText() {
        t.says("KEPT: TEXTS (bits) by which a DOOR (its MOOD, RAIN as they are) can be kept, so that all that was SEEN at it,"
                + " of one with a LOAD told now, is so; 16, if it can be so without any.");
        RoadOfDoors x = new RoadOfDoors(1);
        int[] nothingSeen = {16, 17, 19, 23, 31};
        t.due("no texts, nothing seen", x.kept(0, 0), nothingSeen[0]);
        for (int text = 0; text < 4; text++) {
            Checks.tell(x, "opens gift=" + text + ";");
            t.due("nothing seen, texts " + (text + 1), x.kept(0, 0), nothingSeen[text + 1]);
        }
        x.image();
        for (int gift = 0; gift <= 5; gift++) {
            x.back();
            x.seen(0, 0, 1, gift, 0, true);
            t.due("opened by " + gift, x.kept(0, 0), gift < 4 ? 1 << gift : 0);
            x.back();
            x.seen(0, 0, 1, gift, 0, false);
            t.due("not opened by " + gift, x.kept(0, 0), gift < 4 ? 31 - (1 << gift) : 31);
        }
    }

    private void keptByNone() {
        t.says("16, if it can be so without any.");
        RoadOfDoors x = Edges.told(2, "wait 1;", "opens 1=2;", "opens 1=1;");
        x.seen(0, 5, 7, 5, 9, false);
        t.due("not opened: none, one without opens, one never so", x.kept(0, 0), 16 + 2 + 1);
        t.due("nothing seen at the other", x.kept(1, 0), 16 + 4 + 2 + 1);
        x.seen(1, 5, 7, 5, 9, true);
        t.due("opened: not by none", x.kept(1, 0), 4);
        x.seen(0, 5, 7, 5, 9, true);
        t.due("both at once: by nothing", x.kept(0, 0), 0);
        RoadOfDoors y = new RoadOfDoors(1);
        y.seen(0, 0, 1, 0, 0, false);
        t.due("no texts, not opened", y.kept(0, 0), 16);
        y.seen(0, 1, 1, 0, 0, true);
        t.due("no texts, opened", y.kept(0, 0), 0);
    }

    private void keptByAllSeen() {
        t.says("so that all that was SEEN at it");
        for (int odd = 0; odd < 20; odd++) {
            RoadOfDoors x = Edges.told(2, "opens gift=4;", "opens gift>3;");
            for (int i = 0; i < 20; i++) {
                x.seen(1, i, 1, i == odd ? 5 : 4, 0, true);
            }
            t.due("all but " + odd, x.kept(1, 0), 2);
            t.due("at the other", x.kept(0, 0), 19);
        }
        RoadOfDoors x = Edges.told(8, "opens gift=door/2;");
        for (int door = 0; door < 8; door++) {
            x.seen(door, 0, 1, door / 2, 0, true);
            x.seen(door, 0, 1, door / 2 + 1, 0, door == 5);
        }
        for (int door = 0; door < 8; door++) {
            t.due("door " + door, x.kept(door, 0), door == 5 ? 0 : 1);
        }
    }

    private void keptByWhatWasSeen() {
        t.says("SEEN (20 at most): at a DOOR, at an HOUR, KNOCKS, GIFT, WAITED, and whether it did OPEN (HINGED, without a KEY).");
        RoadOfDoors x = Edges.told(3, "opens door=2 and hour=23;", "opens knocks=7 and gift=5;", "opens waited=9 and knocks>gift;",
                "opens waited>knocks and knocks>gift and gift>door and hour>waited;");
        x.seen(2, 23, 7, 5, 9, true);
        t.due("the most of all", x.kept(2, 0), 15);
        int[][] less = {{2, 22, 7, 5, 9, 14}, {2, 23, 6, 5, 9, 13}, {2, 23, 7, 4, 9, 13}, {2, 23, 7, 5, 8, 11}, {2, 7, 5, 4, 6, 8}};
        x.image();
        for (int[] of : less) {
            x.back();
            x.seen(of[0], of[1], of[2], of[3], of[4], true);
            t.due("and " + of[1] + " " + of[2] + " " + of[3] + " " + of[4], x.kept(2, 0), of[5]);
        }
        RoadOfDoors y = Edges.told(2, "opens door=0 and hour=0 and gift=0 and waited=0;", "opens knocks=1;");
        y.seen(0, 0, 1, 0, 0, true);
        t.due("the least of all", y.kept(0, 0), 3);
        y.seen(1, 0, 1, 0, 0, false);
        t.due("not opened at another", y.kept(1, 0), 17);
        t.due("the first yet", y.kept(0, 0), 3);
    }

    private void keptByWhatIs() {
        t.says("(its MOOD, RAIN as they are)");
        RoadOfDoors x = Edges.told(2, "opens mood=9;", "opens rain=9;", "opens load=9;", "opens mood+rain+load>0;");
        x.seen(1, 23, 1, 0, 0, true);
        t.due("moods, rain and load of 0", x.kept(1, 0), 0);
        x.mood(0, 9);
        x.rain(22, 9);
        t.due("mood of another, rain of another", x.kept(1, 0), 0);
        x.mood(1, 9);
        t.due("its mood", x.kept(1, 0), 9);
        x.rain(23, 9);
        t.due("rain of that hour", x.kept(1, 0), 11);
        t.due("a load", x.kept(1, 9), 15);
        x.rain(23, 8);
        t.due("other rain", x.kept(1, 9), 13);
        x.moods(1);
        t.due("moods drawn", x.kept(1, 8), 8);
        x.sets(9, 0, 0, 0);
        t.due("the traveller's load is not it", x.kept(1, 8), 8);
        t.says("of one with a LOAD told now");
        for (int load = 0; load <= 9; load++) {
            RoadOfDoors y = Edges.told(1, "opens load=" + load + ";");
            y.seen(0, 0, 1, 0, 0, true);
            y.seen(0, 5, 7, 5, 9, true);
            for (int told = 0; told <= 9; told++) {
                t.due("load " + told + " of " + load, y.kept(0, told), told == load ? 1 : 0);
            }
        }
    }

    private void keptAsHinged() {
        t.says("whether it did OPEN (HINGED, without a KEY)");
        RoadOfDoors x = Edges.told(1, "opens gift=1;", "opens gift=2;");
        x.seen(0, 0, 1, 1, 0, true);
        x.seen(0, 0, 1, 2, 0, false);
        t.due("by the first", x.kept(0, 0), 1);
        x.hinge(0, false);
        t.due("though it is not hinged", x.kept(0, 0), 1);
        x.hinge(0, true);
        x.sets(0, 1, 0, 0);
        t.due("though he has its key", x.kept(0, 0), 1);
        x.keep(0, 1);
        t.due("though it is kept by another", x.kept(0, 0), 1);
        t.due("its rule stays", x.about(10), 1);
    }

    private void keptOfOthers() {
        t.says("KEPT (bits; LOAD told). NONE for others.");
        RoadOfDoors x = new RoadOfDoors(2);
        for (int wrong : Edges.outside(0, 1)) {
            t.due("kept(" + wrong + ", 0)", x.kept(wrong, 0), NONE);
        }
        for (int wrong : Edges.outside(0, 9)) {
            t.due("kept(0, " + wrong + ")", x.kept(0, wrong), NONE);
            t.due("kept(1, " + wrong + ")", x.kept(1, wrong), NONE);
        }
        t.due("the first door and load", x.kept(0, 0), 16);
        t.due("the last door and load", x.kept(1, 9), 16);
    }

    // ---- image and back

    private void imageOfEachThing() {
        t.says("AN IMAGE: all as it is, STEPS as well, but the tape and the latest FAULT. BACK: all is so again.");
        RoadOfDoors x = Edges.told(8, "opens gift=1;", "opens gift=2;");
        for (int hour = 0; hour < 24; hour++) {
            x.rain(hour, hour % 10);
        }
        x.moods(4998);
        Edges.rules(x, 0, 1, 0, NONE, 1, 0, 1, 0);
        for (int door = 0; door < 8; door += 3) {
            x.hinge(door, false);
        }
        x.sets(7, 130, 21, 77);
        x.knock(1, 3);
        x.later(4);
        x.guest(1, 2, 3, 4);
        x.seen(1, 2, 3, 4, 5, true);
        t.due("image", x.image(), 1);
        int[] before = Edges.all(x);
        for (int hour = 0; hour < 24; hour++) {
            x.rain(hour, 9 - hour % 10);
        }
        x.moods(0);
        for (int door = 0; door < 8; door++) {
            x.keep(door, door == 3 ? 0 : NONE);
            x.hinge(door, door % 3 == 0);
        }
        x.knock(1, 2);
        x.later(2);
        x.clear();
        x.guest(0, 0, 0, 0);
        x.guest(0, 0, 0, 0);
        x.seen(0, 0, 1, 0, 0, false);
        t.due("back", x.back(), 1);
        t.stays("all is so again", x, before);
        x.sets(0, 0, 0, 0);
        t.due("back of one told anew", x.back(), 1);
        t.stays("he as well", x, before);
        x.undo();
        t.due("back of a step taken back", x.back(), 1);
        t.stays("the step as well", x, before);
        Checks.tell(x, "wait 1;");
        t.due("back of a text", x.back(), 1);
        t.staysButTape("the text is gone", x, before);
    }

    private void imageOfSteps() {
        t.says("STEPS as well");
        for (int steps : new int[] {1, 29, 30, 35}) {
            RoadOfDoors x = new RoadOfDoors(2);
            x.sets(0, 0, 3, 50);
            x.hinge(0, false);
            x.knock(1, 5);
            x.later(24);
            x.undo();
            for (int i = x.about(2); i < steps; i++) {
                x.knock(1, 1);
            }
            while (x.about(2) > steps) {
                x.undo();
            }
            int hour = x.traveller(1);
            int can = Math.min(30, steps);
            x.image();
            x.later(24);
            x.later(24);
            x.sets(9, 3, 0, 0);
            x.later(9);
            t.due("back", x.back(), 1);
            t.due("steps of " + steps, x.about(2), can);
            for (int i = can - 1; i >= 0; i--) {
                t.due("undo", x.undo(), i);
                hour = (hour + 23) % 24;
                t.due("hour", x.traveller(1), hour);
            }
            t.due("none left", x.undo(), NONE);
            boolean first = steps <= 30;
            t.travellerIs("as ahead of them", x, first ? 0 : 1, hour, first ? 0 : Math.min(9, steps - 31), first ? 50 : 45, 0);
        }
    }

    private void imageOfGuests() {
        t.says("AN IMAGE: all as it is");
        RoadOfDoors x = Edges.kept(1, "opens gift=load;");
        for (int i = 0; i < 6; i++) {
            x.guest(i, 0, i, 5);
        }
        t.due("earned", x.earns(0), 15);
        x.image();
        x.clear();
        for (int i = 0; i < 6; i++) {
            x.guest(1, 0, 23, 1);
        }
        t.due("earned by others", x.earns(0), 6);
        x.back();
        t.due("six again", x.about(3), 6);
        t.due("earned by them again", x.earns(0), 15);
        t.due("no room again", x.guest(0, 0, 0, 0), NONE);
        x.clear();
        x.image();
        x.guest(5, 0, 0, 5);
        x.back();
        t.due("none again", x.about(3), 0);
        t.due("nothing earned", x.earns(0), 0);
    }

    private void imageOfSeen() {
        t.says("AN IMAGE: all as it is");
        RoadOfDoors x = Edges.told(1, "opens gift=5;", "opens gift=4;");
        x.image();
        for (int i = 0; i < 20; i++) {
            x.seen(0, i, 1, 4, 0, true);
        }
        t.due("by the second", x.kept(0, 0), 2);
        x.back();
        t.due("nothing seen again", x.about(4), 0);
        t.due("by all", x.kept(0, 0), 19);
        for (int i = 0; i < 20; i++) {
            x.seen(0, i, 1, 5, 0, true);
        }
        t.due("by the first", x.kept(0, 0), 1);
        x.image();
        t.due("no room", x.seen(0, 0, 1, 0, 0, true), NONE);
        x.back();
        t.due("20 again", x.about(4), 20);
        t.due("by the first again", x.kept(0, 0), 1);
        RoadOfDoors y = Edges.told(1, "opens gift=5;");
        y.seen(0, 0, 1, 5, 0, true);
        y.image();
        y.seen(0, 0, 1, 5, 0, false);
        t.due("against itself", y.kept(0, 0), 0);
        y.back();
        t.due("the first alone", y.kept(0, 0), 1);
        y.seen(0, 0, 1, 0, 0, false);
        t.due("with another", y.kept(0, 0), 1);
    }

    private void imageOfTexts() {
        t.says("BACK: all is so again.");
        RoadOfDoors x = Edges.kept(1, "opens gift=1;wait 1;");
        for (int texts = 1; texts <= 3; texts++) {
            x.image();
            for (int i = texts; i < 4; i++) {
                Checks.tell(x, "opens gift=5;wait 5;");
            }
            t.due("four", x.about(1), 4);
            t.due("kept", x.keep(0, texts), true);
            x.back();
            t.due("texts", x.about(1), texts);
            t.due("rule", x.about(10), 0);
            t.due("not to be kept", x.keep(0, texts), false);
            t.due("not to be played", x.played(texts), -2);
            t.due("the last is as it was", x.keep(0, texts - 1) && x.opens(0, 0, 1, texts, 0, 0), true);
            x.keep(0, 0);
            t.due("another", Checks.tell(x, "opens gift=" + (texts + 1) + ";wait " + (texts + 1) + ";"), texts);
        }
        for (int text = 0; text < 4; text++) {
            x.sets(0, 0, 0, 9);
            x.keep(0, text);
            t.due("script of " + text, x.played(text) + x.traveller(1), NONE + text + 1);
            t.due("opens of " + text, x.knock(1, text + 1), 1);
        }
        Checks.put(x, "wait 1;");
        x.image();
        x.back();
        t.due("four are an image, too", x.text(), NONE);
    }

    private void imageWithoutTape() {
        t.says("but the tape and the latest FAULT.");
        RoadOfDoors x = new RoadOfDoors(1);
        Checks.tell(x, "wait");
        Checks.put(x, "wait 25;");
        x.image();
        t.due("the tape stays by an image", x.about(5), 8);
        x.text();
        Checks.put(x, "wait 7; opens");
        x.end(7);
        t.due("back", x.back(), 0);
        t.due("the tape is as it is", x.about(5), 7);
        t.due("the latest fault as well", x.fault(0), 2);
        t.due("its place", x.fault(1), 5);
        t.due("its bytes", x.text(), 0);
        t.due("a wait of 7", x.played(0) + x.traveller(1), NONE + 7);
        x.back();
        t.due("without a fault yet", x.fault(0), 0);
        t.due("no place", x.fault(1), NONE);
        t.due("the text is gone", x.about(1), 0);
        t.due("the tape is empty yet", x.about(5), 0);
        RoadOfDoors y = new RoadOfDoors(1);
        y.feed(1, 2, 3, 4, 5);
        y.back();
        t.due("a new road's image leaves the tape", y.about(5), 20);
        t.due("none was read", y.fault(0), NONE);
    }

    private void imageStays() {
        t.says("BACK to THE IMAGE (it stays): DOOR before which THE TRAVELLER is.");
        RoadOfDoors x = Edges.told(2, "opens gift=1;");
        x.keep(0, 0);
        x.sets(2, 2, 22, 9);
        x.knock(1, 0);
        x.knock(1, 1);
        x.guest(0, 2, 0, 9);
        x.seen(0, 0, 1, 1, 0, true);
        x.image();
        int[] before = Edges.all(x);
        for (int i = 0; i < 3; i++) {
            t.due("through", x.knock(1, 5), 1);
            x.undo();
            x.undo();
            x.undo();
            x.later(24);
            x.rain(i, 5);
            x.mood(i % 2, 3);
            x.hinge(0, false);
            x.keep(0, NONE);
            x.clear();
            x.guest(1, 1, 1, 1);
            x.seen(0, 0, 1, 1, 0, false);
            t.due("back", x.back(), 1);
            t.stays("time " + i, x, before);
            t.due("earned", x.earns(0), 1);
            t.due("fits", x.kept(0, 0), 1);
        }
        t.due("steps of the image", x.undo() * 10 + x.undo(), 10);
        t.travellerIs("at first", x, 0, 22, 0, 9, 0);
    }

    private void imageAnew() {
        t.says("THE IMAGE is as all is now: DOOR before which THE TRAVELLER is.");
        RoadOfDoors x = new RoadOfDoors(1);
        x.mood(0, 1);
        x.image();
        x.mood(0, 2);
        x.image();
        x.mood(0, 3);
        x.back();
        t.due("the latest image", x.about(20), 2);
        x.mood(0, 4);
        x.back();
        t.due("again", x.about(20), 2);
        x.mood(0, 5);
        t.due("an image changes nothing", x.image() + x.about(20), 5);
        x.back();
        t.due("nor does back to it", x.about(20), 5);
    }

    private void doorAnswered() {
        t.says("DOOR before which THE TRAVELLER is.");
        for (int doors = 1; doors <= 8; doors++) {
            RoadOfDoors x = Edges.unhinged(doors);
            for (int door = 0; door <= doors; door++) {
                t.due("image before " + door, x.image(), door);
                x.sets(0, 0, 0, 0);
                t.due("back before " + door, x.back(), door);
                x.knock(1, 0);
            }
            t.due("through", x.traveller(0), doors);
            x.sets(0, 0, 0, 0);
            t.due("back to him who is through", x.back(), doors);
            t.due("he does nothing more", x.knock(1, 0), NONE);
        }
    }

    // ---- about

    private void aboutEach() {
        t.says("0 D, 1 TEXTS, 2 STEPS that can be taken back, 3 GUESTS, 4 SEEN, 5 bytes of the tape, 10 + door: its RULE (NONE),"
                + " 20 + door: its MOOD, 10 more if it isn't HINGED, 30 + hour: RAIN. -2 for others.");
        RoadOfDoors x = Edges.told(8, "opens 1=1;", "", "wait 1;", "knock 1 with 1;");
        x.later(24);
        x.later(12);
        for (int i = 0; i < 25; i++) {
            x.guest(0, 0, 0, 0);
            x.seen(0, 0, 1, 0, 0, true);
            x.feed(0, 0, 0, 0, 0);
        }
        int[] full = {8, 4, 30, 6, 20, 300};
        for (int what = 0; what < 6; what++) {
            t.due("full, about(" + what + ")", x.about(what), full[what]);
        }
        for (int door = 0; door < 8; door++) {
            int rule = door % 5 - 1;
            x.keep(door, rule);
            t.due("rule", x.about(10 + door), rule);
            for (int m : new int[] {0, 9}) {
                x.mood(door, m);
                t.due("mood, hinged", x.about(20 + door), m);
                x.hinge(door, false);
                t.due("mood, not hinged", x.about(20 + door), 10 + m);
                x.hinge(door, true);
            }
        }
        for (int hour = 0; hour < 24; hour++) {
            x.rain(hour, hour % 10);
            t.due("rain of " + hour, x.about(30 + hour), hour % 10);
        }
    }

    private void aboutOthers() {
        t.says("-2 for others.");
        for (int doors = 1; doors <= 8; doors++) {
            RoadOfDoors x = Edges.unhinged(doors);
            t.due("the last rule", x.about(9 + doors), NONE);
            t.due("the last mood", x.about(19 + doors), 10);
            for (int what = -3; what < 70; what++) {
                boolean none = what < 0 || what > 5 && what < 10 || what >= 10 + doors && what < 20
                        || what >= 20 + doors && what < 30 || what > 53;
                t.due("about(" + what + ") of " + doors, x.about(what) == -2, none);
            }
            for (int wrong : Edges.outside(0, 53)) {
                t.due("about(" + wrong + ")", x.about(wrong), -2);
            }
        }
    }
}
