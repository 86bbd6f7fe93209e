/** What the tests of the class share: carpets to begin with, and what is due of them. */
abstract class CarpetTest {
    static final int BAD = StretchedCarpet.BAD;
    static final int NO = StretchedCarpet.NO;
    static final int FULL = StretchedCarpet.FULL;
    static final int NONE = StretchedCarpet.NONE;
    static final int LOWEST = Integer.MIN_VALUE;
    static final int HIGHEST = Integer.MAX_VALUE;

    /** What is tested now: it stands ahead of each wrong answer that is told. */
    static String test = "";
    private static int wrong = 0;

    static void due(String what, Object got, Object want) {
        if (!got.equals(want)) {
            wrong++;
            System.out.println(test + ": " + what + " answered " + got + ", due is " + want);
        }
    }

    /** The last line of a test, and its exit code. */
    static void end() {
        System.out.println(wrong == 0 ? "all answers are as due" : wrong + " answers are not as due");
        if (wrong != 0) {
            System.exit(1);
        }
    }

    // ---- carpets to begin with

    static StretchedCarpet typed(String text) {
        StretchedCarpet x = new StretchedCarpet();
        type(x, text);
        return x;
    }

    static void type(StretchedCarpet x, String text) {
        for (int i = 0; i < text.length(); i++) {
            x.write(text.charAt(i));
        }
    }

    static StretchedCarpet laid(String text) {
        StretchedCarpet x = typed(text);
        if (x.lay() < 1) {
            throw new IllegalStateException("no room: " + text);
        }
        return x;
    }

    static StretchedCarpet withCuts(StretchedCarpet x, int... breadths) {
        for (int b : breadths) {
            if (x.cut(b) < 0) {
                throw new IllegalStateException("not cut: " + b);
            }
        }
        return x;
    }

    /** The room of a new object (7 STRIPS, WOOL that gives 3, 12 hold), with all its lengths: 14, 11, 13 long. */
    static StretchedCarpet covered() {
        return withCuts(new StretchedCarpet(), 3, 1, 3);
    }

    static StretchedCarpet passedTo(StretchedCarpet x, int month) {
        for (int call = 0; call < 17 && x.count(6) < month; call++) {
            x.pass(Math.min(60, month - x.count(6)));
        }
        due("count(6)", x.count(6), month);
        return x;
    }

    // ---- what is due of them

    static void counts(StretchedCarpet x, int... want) {
        for (int what = 0; what < want.length; what++) {
            due("count(" + what + ")", x.count(what), want[what]);
        }
    }

    static void tight(StretchedCarpet x, int... want) {
        for (int w = 0; w < 4; w++) {
            due("wall(" + w + ", 0)", x.wall(w, 0), want[w]);
        }
    }

    static void planned(StretchedCarpet x, int much, int seams, int... breadths) {
        due("plan(-1)", x.plan(-1), much);
        due("plan(-2)", x.plan(-2), seams);
        for (int k = 0; k < breadths.length; k++) {
            due("plan(" + k + ")", x.plan(k), breadths[k]);
        }
        due("plan(" + breadths.length + ")", x.plan(breadths.length), NONE);
    }

    static void ordered(StretchedCarpet x, int much, int... walls) {
        due("order(-1)", x.order(-1), much);
        for (int k = 0; k < 4; k++) {
            due("order(" + k + ")", x.order(k), k < walls.length ? walls[k] : NONE);
        }
    }

    static void isLikely(StretchedCarpet x, int w, int n, int by, int above, int below) {
        String call = "likely(" + w + ", " + n + ", " + by + ", ";
        due(call + "0)", x.likely(w, n, by, 0), above);
        due(call + "1)", x.likely(w, n, by, 1), below);
    }
}
