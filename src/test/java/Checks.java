/** Counts what is as due, prints what is not, and ends a test. */
final class Checks {
    private static final int MOST_PRINTED = 20;
    private static final long MOST_MILLISECONDS = 15 * 60 * 1000L;

    private int passed;
    private int failed;

    /** No call may fail to end: a test that does is ended as one that fails. */
    Checks() {
        Thread watch = new Thread(Checks::stops);
        watch.setDaemon(true);
        watch.start();
    }

    private static void stops() {
        try {
            Thread.sleep(MOST_MILLISECONDS);
        } catch (InterruptedException e) {
            return;
        }
        System.out.println("a call does not end");
        Runtime.getRuntime().halt(1);
    }

    void due(String what, long got, long want) {
        if (got == want) {
            passed++;
            return;
        }
        failed++;
        if (failed <= MOST_PRINTED) {
            System.out.println(what + " answered " + got + ", due is " + want);
        }
    }

    void due(String what, boolean got, boolean want) {
        due(what, got ? 1 : 0, want ? 1 : 0);
    }

    /** Prints the counts; exit code 1, if something failed or nothing was tested. */
    void end() {
        System.out.println(passed + " passed, " + failed + " failed");
        if (failed > 0 || passed == 0) {
            System.exit(1);
        }
    }

    /** The five numbers that feed 20 bytes of a text from a place on, behind its end filled with 0. */
    static int[] words(String text, int from) {
        int[] words = new int[5];
        for (int i = 0; i < 20; i++) {
            int sign = from + i < text.length() ? text.charAt(from + i) & 255 : 0;
            words[i / 4] = words[i / 4] << 8 | sign;
        }
        return words;
    }

    /** Feeds a text to an empty tape and reads it: what text() answers. */
    static int tell(RoadOfDoors x, String text) {
        put(x, text);
        return x.text();
    }

    static void put(RoadOfDoors x, String text) {
        x.end(0);
        for (int i = 0; i < text.length(); i += 20) {
            int[] w = words(text, i);
            x.feed(w[0], w[1], w[2], w[3], w[4]);
        }
        x.end(text.length());
    }
}
