/** Compares answers with those that are due, and ends a test with exit code 1 if one was wrong. */
final class Due {
    private static final int MOST_SECONDS = 240;
    private static int wrong = 0;
    private static int asked = 0;
    private static String sentence = "";

    static {
        Thread watch = new Thread(Due::endHangingTest);
        watch.setDaemon(true);
        watch.start();
    }

    private Due() {
    }

    /** A call that does not end would else hold up .ci/run and not fail it. */
    private static void endHangingTest() {
        try {
            Thread.sleep(MOST_SECONDS * 1000L);
        } catch (InterruptedException e) {
            return;
        }
        System.out.println(heading() + "the test did not end in " + MOST_SECONDS + " seconds");
        System.out.flush();
        Runtime.getRuntime().halt(1);
    }

    /** The words of the document that the answers from here on belong to. */
    static void sentence(String words) {
        sentence = words;
    }

    static void is(String call, long got, long want) {
        asked++;
        if (got != want) {
            wrong++;
            System.out.println(heading() + call + " answered " + got + ", due is " + want);
        }
    }

    static void isTrue(String what, boolean holds) {
        is(what, holds ? 1 : 0, 1);
    }

    static void isSame(String what, String got, String want) {
        asked++;
        if (!got.equals(want)) {
            wrong++;
            System.out.println(heading() + what + ":\n  is " + got + "\n  due " + want);
        }
    }

    private static String heading() {
        return sentence.isEmpty() ? "" : "[" + sentence + "] ";
    }

    static boolean allRight() {
        return wrong == 0;
    }

    static void end() {
        System.out.println(asked + " answers, " + wrong + " wrong");
        if (wrong != 0) {
            System.exit(1);
        }
    }
}
