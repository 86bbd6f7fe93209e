/** Each promise of the document by itself: ordinary calls, the edges that it names, wrong calls. */
public final class PromiseTest extends CarpetTest {
    // ---- carpets to begin with

    /** A room of one strip, covered, with more told of it. */
    private static StretchedCarpet small(String more) {
        StretchedCarpet x = laid("s9,0,0;o0;" + more);
        x.cut(1);
        return x;
    }

    // ---- rooms

    private static void newObject() {
        StretchedCarpet x = new StretchedCarpet();
        counts(x, 7, 0, 50, 0, 0, 0, 0, 0, 0, 0, 0);
        int[][] strips = {{11, 3, 2}, {11, 7, 1}, {12, 2, 8}, {9, 1, 3}, {9, 5, 0}, {11, 0, 6}, {11, 4, 4}};
        for (int s = 0; s < strips.length; s++) {
            for (int what = 0; what < 3; what++) {
                due("strip(" + s + ", " + what + ")", x.strip(s, what), strips[s][what]);
            }
            due("strip(" + s + ", 3)", x.strip(s, 3), NONE);
            due("strip(" + s + ", 4)", x.strip(s, 4), 0);
        }
        for (int w = 0; w < 4; w++) {
            for (int what = 0; what < 4; what++) {
                due("wall(" + w + ", " + what + ")", x.wall(w, what), 0);
            }
        }
        due("damp(2)", x.damp(2), 8);
        due("damp(3)", x.damp(3), 2);
        due("damp(4)", x.damp(4), 3);
        due("fault()", x.fault(), NONE);
        due("lay()", x.lay(), NO);
        due("undo()", x.undo(), NO);
        due("back()", x.back(), NO);
        due("left(1)", x.left(1), 150);
        due("cut(1)", x.cut(1), 13);
        due("cut(4)", x.cut(4), NO);
        StretchedCarpet y = covered();
        y.hook(0, 0);
        due("WOOL, 3", y.kickFor(1, 12), 15);
        due("12 hold", y.kickFor(1, 13), NONE);
        due("another object's", new StretchedCarpet().count(4), 0);
    }

    private static void write() {
        StretchedCarpet x = new StretchedCarpet();
        due("write(31)", x.write(31), BAD);
        due("write(127)", x.write(127), BAD);
        due("write(-1)", x.write(-1), BAD);
        due("write(lowest)", x.write(LOWEST), BAD);
        due("write(highest)", x.write(HIGHEST), BAD);
        due("write(65536 + 's')", x.write(65536 + 's'), BAD);
        due("count(10)", x.count(10), 0);
        due("write(32)", x.write(32), 1);
        due("write(126)", x.write(126), 2);
        for (int i = 3; i <= 200; i++) {
            due("write('d')", x.write('d'), i);
        }
        due("write, full", x.write('d'), FULL);
        due("write(31), full", x.write(31), BAD);
        due("count(10)", x.count(10), 200);
        due("wipe()", x.wipe(), 200);
        due("write", x.write('d'), 1);
    }

    private static void wipe() {
        StretchedCarpet x = typed("s1,2,3;");
        due("wipe()", x.wipe(), 7);
        due("wipe(), empty", x.wipe(), 0);
        due("count(10)", x.count(10), 0);
        due("lay()", x.lay(), NO);
        type(x, "o9;");
        due("fault()", x.fault(), 0);
        due("wipe()", x.wipe(), 3);
        due("fault()", x.fault(), NONE);
        due("count(0)", x.count(0), 7);
    }

    private static void faultAt(String text, int want) {
        StretchedCarpet x = typed(text);
        due("fault() of '" + text + "'", x.fault(), want);
        due("count(10)", x.count(10), text.length());
        due("count(0)", x.count(0), 7);
    }

    private static void fault() {
        String[] so = {
            "", "s1,0,0;", "s40,9,9;", "s01,09,00;", "r1,1;", "r6,99;", "r06,01;", "o0;", "o5;", "h1;", "h30;", "k0,1;",
            "k3,9;", "d0;", "d9;", "d09;", "r1,1;r2,2;o1;o2;h3;h4;k0,1;k1,1;", "s9,1,2;".repeat(12), "d7;".repeat(12),
            "o1;".repeat(66),
        };
        for (String text : so) {
            faultAt(text, NONE);
        }
        String[] notSo = {
            "s0,0,0;", "s41,0,0;", "s1,10,0;", "s1,0,10;", "s001,0,0;", "s1,0;", "s1,0,0,0;", "s1,0,0", "s", "s1,0,0,",
            "S1,0,0;", "s,0,0;", "s1,,0;", "s1,0,;", ";", ",", "1", " s1,0,0;", "s 1,0,0;", "s-1,0,0;", "s1;0;0;", "s1.0,0;",
            "r0,5;", "r7,5;", "r1,0;", "r1,100;", "r3;", "r1,2,3;", "r;", "o6;", "o;", "o1,1;", "h0;", "h31;", "h00;", "h;",
            "k4,1;", "k0,0;", "k0,10;", "k1;", "d10;", "d;", "d1,1;", "x1;", "t1;", "~", "o9;h99;", "o1,", "h100;",
        };
        for (String text : notSo) {
            faultAt(text, 0);
        }
        faultAt("s1,0,0;;", 7);
        faultAt("s1,0,0; ", 7);
        faultAt("s1,0,0;s", 7);
        faultAt("s1,0,0;x1;", 7);
        faultAt("d4;o6;h0;", 3);
        faultAt("r1,1;r0,2;r3,3;", 5);
        faultAt("s9,1,2;".repeat(13), 84);
        faultAt("d7;".repeat(13), 36);
        faultAt("d7;".repeat(12) + "o1;d7;", 39);
        faultAt("o1;".repeat(66) + "o1", 198);
        StretchedCarpet x = typed("s1,0,0");
        due("fault()", x.fault(), 0);
        x.write(';');
        due("fault()", x.fault(), NONE);
        due("fault(), again", x.fault(), NONE);

        // what is laid stays when another text is looked at
        StretchedCarpet y = laid("s9,8,7;r2,30;d6;");
        y.wipe();
        type(y, "s1,2,3;s1,2,3;r1,1;d9;");
        due("fault()", y.fault(), NONE);
        y.write('x');
        due("fault()", y.fault(), 22);
        due("lay()", y.lay(), NO);
        counts(y, 1, 0, 30);
        due("strip(0, 0)", y.strip(0, 0), 9);
        due("damp(0)", y.damp(0), 6);
        due("left(1)", y.left(1), 60);
    }

    private static void lay() {
        StretchedCarpet x = covered();
        x.hook(0, 0);
        x.hook(1, 20);
        x.pass(1);
        x.seen(1, 1);
        x.keep();
        due("lay(), empty", x.lay(), NO);
        type(x, "d4;r2,50;");
        due("lay(), no strip", x.lay(), NO);
        type(x, "s5,1,1;x");
        due("lay(), fault", x.lay(), NO);
        counts(x, 7, 3, 12, 2, 1, 1, 1, 1, 6, 1, 17);
        x.wipe();
        type(x, "s5,1,2;s40,9,8;r2,50;r4,45;o5;o3;h12;h3;k3,9;k0,5;d9;");
        due("lay()", x.lay(), 2);
        counts(x, 2, 0, 45, 0, 0, 0, 0, 0, 0, 0, 53);
        tight(x, 0, 0, 0, 0);
        due("wall(1, 2)", x.wall(1, 2), 0);
        due("undo()", x.undo(), NO);
        due("back()", x.back(), NO);
        due("may(0)", x.may(0), 15);
        due("strip(1, 0)", x.strip(1, 0), 40);
        due("strip(1, 2)", x.strip(1, 2), 8);
        due("damp(7)", x.damp(7), 9);
        due("left(1)", x.left(1), 180);
        due("cut(2)", x.cut(2), 43);
        due("hook(3, 9)", x.hook(3, 9), 2);
        due("hook(0, 5), JUTE, 5", x.hook(0, 5), 3);
        due("hook(2, 5), 3 hold", x.hook(2, 5), 0);
        due("lay(), again", x.lay(), 2);
        counts(x, 2, 0, 45, 0, 0, 0, 0, 0, 0, 0, 53);
        x.wipe();
        type(x, "s5,1,2;");
        due("lay()", x.lay(), 1);
        due("left(1), 3 by 60", x.left(1), 180);
        due("damp(0), 4", x.damp(0), 4);
        due("cut(1), 2 over", x.cut(1), 7);
        due("hook(0, 0)", x.hook(0, 0), 2);
        due("hook(1, 13), JUTE, 3, 12 hold", x.hook(1, 13), 12);
        due("hook(3, 20)", x.hook(3, 20), 0);
        due("count(5)", x.count(5), 1);

        // nothing of an earlier text is left behind in a later one
        StretchedCarpet y = laid("s1,0,0;r6,9;o5;h30;k3,9;d9;");
        y.lay();
        y.wipe();
        type(y, "s8,0,0;");
        y.lay();
        y.lay();
        due("left(1), 3 by 60", y.left(1), 180);
        due("damp(0), 4", y.damp(0), 4);
        due("cut(1), 2 over", y.cut(1), 10);
        y.hook(0, 0);
        due("kickFor(1, 12), JUTE", y.kickFor(1, 12), 13);
        due("kickFor(1, 13), 12 hold", y.kickFor(1, 13), NONE);
        y.seen(6, 4);
        due("may(0), gives 3", y.may(0), 2);
        y.forget();
        y.seen(6, 6);
        due("may(1), JUTE", y.may(1), 1 << 2 | 1 << 3);
    }

    private static void strip() {
        StretchedCarpet x = new StretchedCarpet();
        x.cut(3);
        due("strip(0, 3)", x.strip(0, 3), 0);
        due("strip(2, 3)", x.strip(2, 3), 0);
        due("strip(3, 3)", x.strip(3, 3), NONE);
        due("strip(2, 4), no other begins", x.strip(2, 4), 0);
        x.cut(1);
        due("strip(2, 4)", x.strip(2, 4), 1);
        due("strip(1, 4)", x.strip(1, 4), 0);
        due("strip(3, 3)", x.strip(3, 3), 1);
        due("strip(3, 4)", x.strip(3, 4), 0);
        x.cut(3);
        due("strip(3, 4)", x.strip(3, 4), 1);
        due("strip(6, 3)", x.strip(6, 3), 2);
        due("strip(6, 4), the last", x.strip(6, 4), 0);
        due("strip(2, 1)", x.strip(2, 1), 2);
        due("strip(2, 2)", x.strip(2, 2), 8);
        for (int s : new int[] {-1, 7, LOWEST, HIGHEST}) {
            due("strip(" + s + ", 0)", x.strip(s, 0), BAD);
        }
        for (int what : new int[] {-1, 5, LOWEST, HIGHEST}) {
            due("strip(0, " + what + ")", x.strip(0, what), BAD);
        }
        due("strip(1, 0) of one", small("").strip(1, 0), BAD);
    }

    private static void wall() {
        StretchedCarpet x = covered();
        x.hook(0, 5);
        x.hook(2, 7);
        x.hook(1, 20);
        x.hook(3, 4);
        int[][] want = {{2, 1, 0, 0}, {0, 0, 1, 0}, {5, 1, 0, 0}, {1, 1, 0, 1}};
        for (int w = 0; w < 4; w++) {
            for (int what = 0; what < 4; what++) {
                due("wall(" + w + ", " + what + ")", x.wall(w, what), want[w][what]);
            }
        }
        x.letGo(3);
        due("wall(3, 3), let go", x.wall(3, 3), 0);
        for (int bad : new int[] {-1, 4, LOWEST, HIGHEST}) {
            due("wall(" + bad + ", 0)", x.wall(bad, 0), BAD);
            due("wall(0, " + bad + ")", x.wall(0, bad), BAD);
        }
    }

    private static void damp() {
        StretchedCarpet x = new StretchedCarpet();
        due("damp(0)", x.damp(0), 3);
        due("damp(1)", x.damp(1), 5);
        due("damp(5)", x.damp(5), 5);
        due("damp(999)", x.damp(999), 2);
        for (int m : new int[] {-1, 1000, LOWEST, HIGHEST}) {
            due("damp(" + m + ")", x.damp(m), BAD);
        }
        due("damp(0), none told", small("").damp(0), 4);
        due("damp(999), none told", small("").damp(999), 4);
        StretchedCarpet y = small("d0;d1;d2;d3;d4;d5;d6;d7;d8;d9;d9;d7;");
        due("damp(11)", y.damp(11), 7);
        due("damp(12)", y.damp(12), 0);
    }

    // ---- acts

    private static void cut() {
        StretchedCarpet x = new StretchedCarpet();
        for (int b : new int[] {0, 7, -1, LOWEST, HIGHEST}) {
            due("cut(" + b + ")", x.cut(b), BAD);
        }
        due("cut(4), too broad", x.cut(4), NO);
        counts(x, 7, 0, 50, 0, 0, 0, 0, 0, 0);
        due("cut(3)", x.cut(3), 14);
        due("cut(2)", x.cut(2), 11);
        due("count(2)", x.count(2), 25);
        due("cut(3), too few", x.cut(3), NO);
        due("cut(2)", x.cut(2), 13);
        due("cut(1), none left", x.cut(1), NO);
        due("cut(7), none left", x.cut(7), BAD);
        StretchedCarpet y = laid("s5,0,0;s9,0,0;s3,0,0;s4,0,0;r4,13;o1;");
        due("cut(3), the longest within", y.cut(3), 10);
        due("cut(1), the roll does not do", y.cut(1), NO);
        due("count(1)", y.count(1), 1);
        StretchedCarpet z = laid("s5,0,0;s5,0,0;r1,14;");
        due("cut(2), too broad", z.cut(2), NO);
        due("cut(1)", z.cut(1), 7);
        due("cut(1), to the end", z.cut(1), 7);
        due("count(2)", z.count(2), 0);
        due("cut(6) of 6", laid("s1,0,0;".repeat(6) + "r6,9;o0;").cut(6), 1);
    }

    private static void hook() {
        StretchedCarpet x = new StretchedCarpet();
        due("hook(0, 5), no length", x.hook(0, 5), NO);
        x.cut(3);
        x.cut(3);
        due("hook(0, 5), a strip without", x.hook(0, 5), NO);
        due("hook(4, 5), a strip without", x.hook(4, 5), BAD);
        x.cut(1);
        for (int bad : new int[] {-1, 4, LOWEST, HIGHEST}) {
            due("hook(" + bad + ", 0)", x.hook(bad, 0), BAD);
        }
        for (int bad : new int[] {-1, 21, LOWEST, HIGHEST}) {
            due("hook(0, " + bad + ")", x.hook(0, bad), BAD);
        }
        due("hook(1, 20), the first", x.hook(1, 20), 2);
        due("hook(1, 0), hooked", x.hook(1, 0), NO);
        due("hook(1, 21), hooked", x.hook(1, 21), BAD);
        due("hook(3, 9), half of 2 opposite", x.hook(3, 9), 7);
        due("hook(0, 9), none opposite", x.hook(0, 9), 6);
        due("hook(2, 13), 12 hold and more", x.hook(2, 13), 0);
        due("wall(2, 2)", x.wall(2, 2), 1);
        due("hook(2, 12), torn", x.hook(2, 12), NO);
        due("letGo(1)", x.letGo(1), 2);
        due("hook(1, 0), half of 7, cut", x.hook(1, 0), 0);
        due("wall(1, 1), slack", x.wall(1, 1), 1);
        x.letGo(1);
        due("hook(1, 12), just held", x.hook(1, 12), 12);
        tight(x, 6, 12, 0, 7);

        StretchedCarpet all = covered();
        all.hook(0, 0);
        all.hook(1, 5);
        all.letGo(0);
        all.letGo(1);
        due("hook(3, 9), none hooked again", all.hook(3, 9), 2);

        gives("k0,5;", 2, 2);
        gives("k0,1;", 0, 0);
        gives("k1,5;", 5, 5);
        gives("k2,4;", 8, 8);
        gives("k3,2;", 3, 4);

        StretchedCarpet weak = small("h1;");
        due("hook(0, 0), the first tears", weak.hook(0, 0), 0);
        due("hook(1, 20), the first again", weak.hook(1, 20), 0);
        counts(weak, 1, 1, 51, 0, 0, 2);
        due("hook(0, 0), 2 hold", small("h2;").hook(0, 0), 2);
    }

    /** What the stuff gives when one wall is hooked, and when two are. */
    private static void gives(String stuff, int byOne, int byTwo) {
        StretchedCarpet x = small("h30;" + stuff);
        x.hook(0, 0);
        due("hook(1, 15), " + stuff, x.hook(1, 15), 15 - byOne);
        due("hook(2, 15), " + stuff, x.hook(2, 15), 15 + 1 - byTwo);
    }

    private static void letGo() {
        StretchedCarpet x = covered();
        due("letGo(0), not hooked", x.letGo(0), NO);
        x.hook(0, 0);
        x.hook(1, 8);
        due("letGo(1)", x.letGo(1), 5);
        due("letGo(1), gone", x.letGo(1), NO);
        tight(x, 2, 0, 0, 0);
        counts(x, 7, 3, 12, 2, 1, 0);
        due("hook(1, 9), again", x.hook(1, 9), 6);
        x.hook(2, 20);
        due("letGo(2), torn", x.letGo(2), NO);
        for (int bad : new int[] {-1, 4, LOWEST, HIGHEST}) {
            due("letGo(" + bad + ")", x.letGo(bad), BAD);
        }
    }

    private static void pass() {
        StretchedCarpet x = covered();
        x.hook(0, 0);
        x.hook(1, 13);
        for (int bad : new int[] {0, 61, -1, LOWEST, HIGHEST}) {
            due("pass(" + bad + ")", x.pass(bad), BAD);
        }
        due("pass(1)", x.pass(1), 1);
        tight(x, 1, 9, 0, 0);
        due("pass(1)", x.pass(1), 2);
        tight(x, 0, 8, 0, 0);
        due("wall(0, 1), slack, but hooked", x.wall(0, 1), 1);
        due("pass(3)", x.pass(3), 5);
        tight(x, 0, 5, 0, 0);
        due("count(6)", x.count(6), 5);
        StretchedCarpet y = new StretchedCarpet();
        due("pass(60), no length", y.pass(60), 60);
        passedTo(y, 960);
        due("pass(40), above 999", y.pass(40), NO);
        due("pass(61), above 999", y.pass(61), BAD);
        due("pass(39)", y.pass(39), 999);
        due("pass(1), above 999", y.pass(1), NO);
        due("count(6)", y.count(6), 999);
        StretchedCarpet z = small("d2;d9;");
        z.hook(0, 0);
        z.pass(1);
        tight(z, 2, 0, 0, 0);
        z.pass(1);
        tight(z, 0, 0, 0, 0);
    }

    private static void undo() {
        StretchedCarpet x = covered();
        x.hook(0, 0);
        x.hook(1, 20);
        x.hook(2, 9);
        x.pass(7);
        x.letGo(2);
        counts(x, 7, 3, 12, 2, 1, 1, 7, 0, 8);
        x.seen(3, 3);
        due("undo(), letting go", x.undo(), 7);
        tight(x, 0, 0, 0, 0);
        due("wall(2, 1)", x.wall(2, 1), 1);
        due("undo(), all months at once", x.undo(), 6);
        due("count(6)", x.count(6), 0);
        tight(x, 2, 0, 7, 0);
        due("undo(), a kick", x.undo(), 5);
        tight(x, 2, 0, 0, 0);
        due("undo(), a tear", x.undo(), 4);
        due("wall(1, 2)", x.wall(1, 2), 0);
        due("undo()", x.undo(), 3);
        due("undo(), a cut", x.undo(), 2);
        counts(x, 7, 2, 25, 1, 0, 0, 0, 1, 2);
        due("strip(4, 3)", x.strip(4, 3), NONE);
        due("undo()", x.undo(), 1);
        due("undo()", x.undo(), 0);
        due("undo(), none", x.undo(), NO);
        due("left(0)", x.left(0), 0);

        StretchedCarpet y = new StretchedCarpet();
        for (int i = 1; i <= 11; i++) {
            y.pass(1);
            due("count(8)", y.count(8), Math.min(i, 8));
        }
        y.cut(4);
        y.hook(0, 0);
        y.letGo(0);
        y.pass(0);
        due("count(8), after what was refused", y.count(8), 8);
        for (int i = 7; i >= 0; i--) {
            due("undo()", y.undo(), i);
        }
        due("undo(), the last 8", y.undo(), NO);
        due("count(6)", y.count(6), 3);
        y.pass(60);
        due("undo()", y.undo(), 0);
        due("count(6)", y.count(6), 3);
    }

    // ---- what to do

    private static void plan() {
        StretchedCarpet x = new StretchedCarpet();
        planned(x, 38, 14, 3, 1, 3);
        x.cut(3);
        planned(x, 24, 14, 1, 3);
        x.cut(1);
        planned(x, 13, 4, 3);
        x.cut(3);
        planned(x, 0, 0);
        for (int bad : new int[] {-3, -4, LOWEST}) {
            due("plan(" + bad + ")", x.plan(bad), BAD);
        }
        due("plan(highest)", x.plan(HIGHEST), NONE);

        planned(laid("s5,1,0;s5,9,9;s5,2,0;s5,0,0;r2,60;o0;"), 10, 18, 2, 2);
        planned(laid("s5,1,0;s5,9,9;s5,2,0;s5,0,0;r3,60;o0;"), 10, 1, 1, 3);
        planned(laid("s5,3,0;s5,9,9;s5,0,2;s5,0,0;r3,60;o0;"), 10, 2, 3, 1);
        planned(laid("s5,0,1;s5,9,9;s5,1,0;s5,0,0;r3,60;o0;"), 10, 1, 1, 3);
        planned(laid("s5,8,0;s5,4,5;s5,0,9;s5,0,0;r3,60;o0;"), 10, 8, 1, 3);
        // less cut goes before lesser seams
        planned(laid("s2,9,9;s9,0,0;s9,0,0;r2,60;o0;"), 11, 18, 1, 2);
        // what is cut over tells against many lengths
        planned(laid("s9,9,9;s2,0,0;s2,0,0;r3,60;o5;"), 14, 0, 3);
        planned(laid("s4,0,0;s4,0,0;r1,8;o0;"), 8, 0, 1, 1);
        planned(laid("s1,1,1;".repeat(12) + "r1,60;"), 36, 22, 1, 1, 1, 1, 1, 1, 1, 1, 1, 1, 1, 1);

        StretchedCarpet none = laid("s4,0,0;s4,0,0;r1,7;o0;");
        for (int k = -2; k < 3; k++) {
            due("plan(" + k + "), the roll does not do", none.plan(k), NONE);
        }
        due("plan(-3)", none.plan(-3), BAD);
        StretchedCarpet spent = laid("s5,0,9;s9,0,0;r3,15;o1;");
        planned(spent, 10, 0, 2);
        spent.cut(1);
        due("plan(-1), not any more", spent.plan(-1), NONE);
        due("count(1)", spent.count(1), 1);
        StretchedCarpet again = new StretchedCarpet();
        planned(again, 38, 14, 3, 1, 3);
        type(again, "s5,1,0;s6,0,0;r1,20;o0;");
        again.lay();
        planned(again, 11, 1, 1, 1);
    }

    private static void order() {
        StretchedCarpet x = new StretchedCarpet();
        ordered(x, 18, 0, 1, 2, 3);
        due("count(4)", x.count(4), 0);
        for (int bad : new int[] {-2, 4, LOWEST, HIGHEST}) {
            due("order(" + bad + ")", x.order(bad), BAD);
        }
        x = covered();
        x.hook(2, 0);
        ordered(x, 18, 0, 1, 3);
        x.hook(1, 20);
        ordered(x, 13, 0, 3);
        x.hook(0, 20);
        x.hook(3, 20);
        ordered(x, 0);
        x.undo();
        x.undo();
        ordered(x, 13, 0, 3);
        type(x, "s1,0,0;h3;");
        x.lay();
        ordered(x, NONE);

        // what is hooked late loosens the OLD more: the wall opposite the tight one goes last
        StretchedCarpet old = small("h30;k3,1;");
        old.hook(0, 0);
        old.hook(3, 20);
        old.letGo(0);
        ordered(old, 11, 0, 2, 1);
        StretchedCarpet older = small("h30;k3,1;");
        older.hook(1, 0);
        older.hook(2, 20);
        older.letGo(1);
        ordered(older, 11, 1, 3, 0);
        StretchedCarpet oldest = small("h30;k3,1;");
        oldest.hook(0, 0);
        oldest.hook(1, 20);
        oldest.letGo(0);
        ordered(oldest, 11, 0, 2, 3);

        ordered(small("k2,7;h30;"), 18 + 17 + 16, 0, 1, 2, 3);
        ordered(small("h4;"), 5 + 4 + 3, 0, 1, 2, 3);
        for (String none : new String[] {"h3;", "h1;", "k2,9;"}) {
            StretchedCarpet y = small(none);
            for (int k = -1; k < 4; k++) {
                due("order(" + k + "), " + none, y.order(k), NONE);
            }
            due("order(4), " + none, y.order(4), BAD);
        }
        StretchedCarpet torn = small("h1;");
        for (int w = 0; w < 4; w++) {
            torn.hook(w, 0);
        }
        ordered(torn, 0);
    }

    private static void kickFor() {
        StretchedCarpet x = new StretchedCarpet();
        due("kickFor(3, 0), none hooked", x.kickFor(3, 0), 0);
        due("kickFor(3, 2), none hooked", x.kickFor(3, 2), 0);
        due("kickFor(3, 3), none hooked", x.kickFor(3, 3), NONE);
        x = covered();
        x.hook(0, 0);
        due("kickFor(2, 4)", x.kickFor(2, 4), 6);
        due("kickFor(1, 4)", x.kickFor(1, 4), 7);
        due("kickFor(1, 1)", x.kickFor(1, 1), 4);
        due("kickFor(1, 0)", x.kickFor(1, 0), 0);
        due("kickFor(1, 12)", x.kickFor(1, 12), 15);
        due("kickFor(1, 13), more than 12 hold", x.kickFor(1, 13), NONE);
        due("kickFor(0, 0), hooked", x.kickFor(0, 0), NONE);
        x.hook(3, 20);
        due("kickFor(3, 0), torn", x.kickFor(3, 0), NONE);
        for (int bad : new int[] {-1, 31, LOWEST, HIGHEST}) {
            due("kickFor(3, " + bad + ")", x.kickFor(3, bad), BAD);
        }
        for (int bad : new int[] {-1, 4, LOWEST, HIGHEST}) {
            due("kickFor(" + bad + ", 0)", x.kickFor(bad, 0), BAD);
        }
        due("count(4)", x.count(4), 1);
        StretchedCarpet y = small("h30;k1,1;");
        y.hook(0, 0);
        due("kickFor(1, 19)", y.kickFor(1, 19), 20);
        due("kickFor(1, 20), too far", y.kickFor(1, 20), NONE);
        due("kickFor(1, 30)", y.kickFor(1, 30), NONE);
        y.hook(1, 20);
        due("kickFor(3, 8), without a kick", y.kickFor(3, 8), 0);
        due("kickFor(3, 28)", y.kickFor(3, 28), 20);
        due("kickFor(3, 29)", y.kickFor(3, 29), NONE);
        due("kickFor(0, 0), 1 holds", small("h1;").kickFor(0, 0), NONE);
        due("kickFor(0, 2), 2 hold", small("h2;").kickFor(0, 2), 0);
    }

    private static void waves() {
        due("waves(), none hooked", covered().waves(), NONE);
        StretchedCarpet x = small("h30;k1,1;d3;d0;d9;");
        x.hook(0, 0);
        x.hook(1, 11);
        due("waves()", x.waves(), 1);
        x.letGo(0);
        due("waves()", x.waves(), 7);
        x.pass(2);
        due("waves(), from now on", x.waves(), 5);
        x.hook(0, 1);
        due("waves(), already", x.waves(), 0);
        due("count(6)", x.count(6), 2);
        tight(x, 0, 9, 0, 0);
        StretchedCarpet dry = small("d2;d1;");
        dry.hook(0, 0);
        due("waves(), dry", dry.waves(), NONE);
        StretchedCarpet late = small("k1,1;" + "d0;".repeat(11) + "d3;");
        late.hook(0, 0);
        late.hook(1, 7);
        late.letGo(0);
        due("waves(), behind 60", late.waves(), 60);
        late.letGo(1);
        late.hook(0, 0);
        late.hook(1, 8);
        late.letGo(0);
        due("waves(), behind 72", late.waves(), NONE);
        StretchedCarpet end = small("d2;d9;");
        passedTo(end, 998);
        end.hook(0, 0);
        due("waves(), at 998", end.waves(), 2);
        end.pass(1);
        due("waves(), at 999", end.waves(), 1);
    }

    private static void longest() {
        due("longest(), none hooked", covered().longest(), NONE);
        StretchedCarpet x = small("h30;k1,1;d3;");
        x.hook(0, 0);
        due("longest(), one", x.longest(), 0);
        x.hook(1, 7);
        due("longest()", x.longest(), 1);
        x.hook(3, 4);
        due("longest(), of two", x.longest(), 1);
        due("wall(3, 0)", x.wall(3, 0), 6);
        x.hook(2, 15);
        due("longest()", x.longest(), 2);
        x.pass(20);
        due("longest(), all wave", x.longest(), 0);
        x.letGo(0);
        due("longest(), of hooked ones", x.longest(), 1);
        StretchedCarpet dry = small("h30;k1,1;d2;");
        dry.hook(3, 0);
        dry.hook(1, 1);
        due("longest(), never", dry.longest(), 3);
        dry.hook(2, 20);
        due("longest(), both never", dry.longest(), 2);
        // wall 0 waves behind 60 months, walls 1 and 3 behind 72 and 84: never counts alike
        StretchedCarpet late = small("h30;k1,1;" + "d0;".repeat(11) + "d3;");
        late.hook(2, 0);
        late.hook(1, 8);
        late.hook(3, 6);
        late.letGo(2);
        late.hook(0, 7);
        tight(late, 6, 7, 0, 8);
        due("longest()", late.longest(), 1);
        due("waves()", late.waves(), 60);
    }

    // ---- what was seen

    private static void seen() {
        StretchedCarpet x = new StretchedCarpet();
        for (int bad : new int[] {-1, 21, LOWEST, HIGHEST}) {
            due("seen(" + bad + ", 0)", x.seen(bad, 0), BAD);
        }
        for (int bad : new int[] {-1, 41, LOWEST, HIGHEST}) {
            due("seen(0, " + bad + ")", x.seen(0, bad), BAD);
        }
        due("count(7)", x.count(7), 0);
        due("seen(0, 0)", x.seen(0, 0), 1);
        due("seen(20, 40)", x.seen(20, 40), 2);
        for (int i = 3; i <= 6; i++) {
            due("seen(5, 5)", x.seen(5, 5), i);
        }
        due("seen(5, 5), full", x.seen(5, 5), FULL);
        due("seen(21, 5), full", x.seen(21, 5), BAD);
        due("count(7)", x.count(7), 6);
        due("count(8)", x.count(8), 0);
    }

    private static void forget() {
        StretchedCarpet x = new StretchedCarpet();
        due("forget(), none", x.forget(), 0);
        x.seen(5, 20);
        x.seen(6, 4);
        due("may(0)", x.may(0), 0);
        due("forget()", x.forget(), 2);
        due("forget(), again", x.forget(), 0);
        due("count(7)", x.count(7), 0);
        due("may(0)", x.may(0), 15);
        x.seen(6, 4);
        due("may(0)", x.may(0), 2);
    }

    private static void may() {
        StretchedCarpet x = new StretchedCarpet();
        due("may(0), none seen", x.may(0), 15);
        due("may(1), none seen", x.may(1), 1022);
        for (int bad : new int[] {-1, 2, LOWEST, HIGHEST}) {
            due("may(" + bad + ")", x.may(bad), BAD);
        }
        mayBe("", 6, 6, 1, 1 << 2 | 1 << 3);
        mayBe("k1,3;", 6, 4, 2, 1 << 3);
        mayBe("k2,3;", 6, 1, 4, 1 << 3);
        mayBe("k3,3;", 6, 3, 8, 1 << 3);
        mayBe("k1,3;", 2, 0, 2 | 4 | 8, 1022 & -(1 << 3));
        mayBe("k1,3;", 0, 0, 15, 1022);
        mayBe("k1,2;", 9, 8, 2, 1 << 2);
        mayBe("k0,1;", 9, 10, 1, 1 << 1);
        mayBe("k0,9;", 9, 6, 1, 1 << 8 | 1 << 9);
        mayBe("k2,1;", 20, 19, 4 | 8, 1 << 1);
        mayBe("k3,1;", 20, 19, 4 | 8, 1 << 1);
        mayBe("h1;k1,9;", 20, 12, 2, 1 << 9);
        mayBe("k1,3;", 6, 40, 0, 0);
        StretchedCarpet both = laid("s1,0,0;k0,2;");
        both.seen(4, 4);
        due("may(1), one", both.may(1), 1 << 2 | 1 << 3);
        both.seen(0, 0);
        due("may(1), both", both.may(1), 1 << 2 | 1 << 3);
        both.seen(9, 8);
        due("may(1), not all", both.may(1), 0);
        due("may(0), not all", both.may(0), 0);
    }

    private static void mayBe(String stuff, int f, int v, int kinds, int gives) {
        StretchedCarpet x = laid("s1,0,0;" + stuff);
        x.seen(f, v);
        due("may(0), " + stuff + " " + f + ", " + v, x.may(0), kinds);
        due("may(1), " + stuff + " " + f + ", " + v, x.may(1), gives);
    }

    // ---- what is left

    private static void hall() {
        StretchedCarpet x = new StretchedCarpet();
        for (int bad : new int[] {0, 7, -1, LOWEST, HIGHEST}) {
            due("hall(" + bad + ", 5)", x.hall(bad, 5), BAD);
        }
        for (int bad : new int[] {0, 41, -1, LOWEST, HIGHEST}) {
            due("hall(1, " + bad + ")", x.hall(1, bad), BAD);
        }
        due("hall(3, 40)", x.hall(3, 40), 2);
        due("hall(4, 1), too broad", x.hall(4, 1), 0);
        x.cut(3);
        due("hall(1, 1), no rest", x.hall(1, 1), 2);
        x.cut(1);
        due("hall(2, 11)", x.hall(2, 11), 1);
        due("hall(1, 11)", x.hall(1, 11), 1);
        due("hall(2, 12)", x.hall(2, 12), 2);
        due("hall(3, 11), not turned", x.hall(3, 11), 2);
        due("hall(3, 25)", x.hall(3, 25), 2);
        due("hall(3, 26)", x.hall(3, 26), 0);
        StretchedCarpet y = laid("s2,0,0;s9,0,0;s5,0,0;r4,20;o0;");
        y.cut(1);
        due("hall(3, 2), of the first", y.hall(3, 2), 1);
        due("hall(3, 3), not of the first", y.hall(3, 3), 2);
        y.cut(1);
        due("hall(3, 9), of the second", y.hall(3, 9), 1);
        y.cut(1);
        due("hall(3, 10), not of two", y.hall(3, 10), 0);
        due("hall(4, 4)", y.hall(4, 4), 2);
        due("hall(4, 5)", y.hall(4, 5), 0);
        due("count(2)", y.count(2), 4);
    }

    private static void left() {
        StretchedCarpet x = new StretchedCarpet();
        due("left(0)", x.left(0), 0);
        due("left(1)", x.left(1), 150);
        x.cut(2);
        due("left(0)", x.left(0), 13);
        due("left(1)", x.left(1), 111);
        x.cut(1);
        due("left(0)", x.left(0), 13 + 28);
        due("left(1)", x.left(1), 69);
        x.undo();
        due("left(0), undone", x.left(0), 13);
        for (int bad : new int[] {-1, 2, LOWEST, HIGHEST}) {
            due("left(" + bad + ")", x.left(bad), BAD);
        }
    }

    private static void likely() {
        StretchedCarpet x = small("h30;k1,1;");
        due("likely(0, ..), not hooked", x.likely(0, 1, 5, 0), NO);
        due("likely(0, 7, ..), not hooked", x.likely(0, 7, 5, 0), BAD);
        x.hook(0, 0);
        x.hook(1, 5);
        isLikely(x, 0, 0, 5, 0, 1);
        isLikely(x, 0, 1, 5, 1, 2);
        isLikely(x, 0, 1, 0, 0, 1);
        isLikely(x, 0, 1, 10, 1, 1);
        isLikely(x, 0, 2, 3, 51, 100);
        isLikely(x, 0, 6, 1, 468559, 1000000);
        isLikely(x, 1, 1, 10, 0, 1);
        isLikely(x, 1, 2, 5, 1, 4);
        isLikely(x, 1, 2, 4, 4, 25);
        isLikely(x, 1, 3, 4, 44, 125);
        x.pass(1);
        due("wall(0, 0)", x.wall(0, 0), 1);
        isLikely(x, 0, 0, 5, 1, 1);
        isLikely(x, 0, 6, 0, 1, 1);
        isLikely(x, 1, 1, 5, 1, 2);
        due("count(6)", x.count(6), 1);
        for (int bad : new int[] {LOWEST, -1, HIGHEST}) {
            due("likely(" + bad + ", ..)", x.likely(bad, 1, 5, 0), BAD);
            due("likely(0, " + bad + ", ..)", x.likely(0, bad, 5, 0), BAD);
            due("likely(0, 1, " + bad + ", 0)", x.likely(0, 1, bad, 0), BAD);
            due("likely(0, 1, 5, " + bad + ")", x.likely(0, 1, 5, bad), BAD);
        }
        due("likely(4, 1, 5, 0)", x.likely(4, 1, 5, 0), BAD);
        due("likely(0, 7, 5, 0)", x.likely(0, 7, 5, 0), BAD);
        due("likely(0, 1, 11, 0)", x.likely(0, 1, 11, 0), BAD);
        due("likely(0, 1, 5, 2)", x.likely(0, 1, 5, 2), BAD);
    }

    private static void year() {
        StretchedCarpet bare = new StretchedCarpet();
        due("year(0, 1, 0), no length", bare.year(0, 1, 0), NO);
        due("year(0, 1, 2), no length", bare.year(0, 1, 2), BAD);
        StretchedCarpet x = covered();
        // by 0: draws 0 (wall 0, kick 0, a month), 20743 (wall 3, kick 8, no month)
        due("year(0, 1, 1)", x.year(0, 1, 1), 1);
        due("year(0, 1, 0)", x.year(0, 1, 0), 0);
        due("year(0, 2, 1)", x.year(0, 2, 1), 6);
        counts(x, 7, 3, 12, 2, 0, 0, 0, 0, 3);
        x.hook(0, 0);
        due("year(0, 1, 1), let go", x.year(0, 1, 1), 0);
        due("year(0, 2, 1), the first again", x.year(0, 2, 1), 2);
        x.letGo(0);
        x.pass(3);
        due("year(0, 1, 1), a dry month", x.year(0, 1, 1), 2);
        StretchedCarpet weak = small("h1;");
        due("year(0, 1, 0), the first tears", weak.year(0, 1, 0), 1);
        due("year(0, 2, 0), both tear", weak.year(0, 2, 0), 2);
        due("year(0, 2, 1)", weak.year(0, 2, 1), 0);
        weak.hook(1, 0);
        due("year(0, 2, 0), one torn before", weak.year(0, 2, 0), 3);
        weak.hook(0, 0);
        due("year(0, 1, 0), torn before", weak.year(0, 1, 0), 2);
        due("year(9999, 40, 0)", weak.year(9999, 40, 0), 4);
        StretchedCarpet end = covered();
        passedTo(end, 999);
        due("year(0, 1, 1), at 999", end.year(0, 1, 1), 2);
        StretchedCarpet known = covered();
        years(known, 1, 0, 2, 0, 12, 0, 20, 0, 14, 1, 2, 1, 0);
        years(known, 2, 0, 2, 0, 12, 0, 24, 0, 27, 0, 24, 0, 1);
        years(known, 3, 0, 2, 0, 1, 0, 14, 0, 14, 0, 3, 0, 0);
        years(known, 500, 0, 2, 0, 2, 0, 5, 1, 2, 1, 0, 1, 19);
        years(known, 1234, 0, 2, 0, 11, 0, 11, 0, 10, 0, 8, 1, 6);
        years(known, 9999, 0, 2, 0, 12, 0, 17, 1, 6, 1, 9, 1, 7);
        StretchedCarpet loose = small("k3,1;h6;");
        years(loose, 1, 0, 2, 1, 2, 2, 2, 2, 0, 2, 0, 2, 1);
        years(loose, 9, 0, 2, 0, 2, 0, 1, 0, 1, 0, 5, 3, 0);
        years(loose, 4321, 0, 2, 0, 0, 0, 1, 1, 0, 1, 0, 2, 3);
        for (int bad : new int[] {LOWEST, -1, HIGHEST}) {
            due("year(" + bad + ", 1, 0)", known.year(bad, 1, 0), BAD);
            due("year(0, " + bad + ", 0)", known.year(0, bad, 0), BAD);
            due("year(0, 1, " + bad + ")", known.year(0, 1, bad), BAD);
        }
        due("year(10000, 1, 0)", known.year(10000, 1, 0), BAD);
        due("year(0, 0, 0)", known.year(0, 0, 0), BAD);
        due("year(0, 41, 0)", known.year(0, 41, 0), BAD);
        due("year(0, 1, 2)", known.year(0, 1, 2), BAD);
    }

    /** Behind 1, 2, 5, 10, 20, 40 steps: how many are torn, how tight all are. */
    private static void years(StretchedCarpet x, int z, int... want) {
        int[] steps = {1, 2, 5, 10, 20, 40};
        for (int i = 0; i < want.length; i++) {
            due("year(" + z + ", " + steps[i / 2] + ", " + i % 2 + ")", x.year(z, steps[i / 2], i % 2), want[i]);
        }
    }

    // ---- kept

    private static void keep() {
        StretchedCarpet x = covered();
        due("keep()", x.keep(), 1);
        x.hook(0, 0);
        due("keep()", x.keep(), 2);
        due("keep(), full", x.keep(), FULL);
        due("count(9)", x.count(9), 2);
        due("count(8)", x.count(8), 4);
        due("undo()", x.undo(), 3);
        due("count(9), undone", x.count(9), 2);
        x.back();
        due("keep(), again", x.keep(), 2);
    }

    private static void back() {
        StretchedCarpet x = covered();
        due("back(), none", x.back(), NO);
        due("count(8)", x.count(8), 3);
        x.hook(0, 0);
        x.hook(1, 20);
        x.pass(1);
        x.keep();
        x.letGo(0);
        x.hook(2, 0);
        x.pass(9);
        x.keep();
        x.undo();
        type(x, "d1;");
        x.seen(3, 4);
        due("back()", x.back(), 1);
        counts(x, 7, 3, 12, 2, 1, 1, 10, 1, 0, 1, 3);
        tight(x, 0, 0, 0, 0);
        due("wall(2, 1)", x.wall(2, 1), 1);
        due("undo(), none", x.undo(), NO);
        x.pass(1);
        due("back()", x.back(), 0);
        counts(x, 7, 3, 12, 2, 1, 1, 1, 1, 0, 0, 3);
        tight(x, 1, 0, 0, 0);
        due("wall(1, 2)", x.wall(1, 2), 1);
        due("undo(), none", x.undo(), NO);
        due("back(), none left", x.back(), NO);
        x.pass(1);
        due("undo()", x.undo(), 0);
        StretchedCarpet y = new StretchedCarpet();
        y.cut(3);
        y.keep();
        y.cut(1);
        y.cut(2);
        y.back();
        due("strip(2, 3)", y.strip(2, 3), 0);
        due("strip(3, 3)", y.strip(3, 3), NONE);
        counts(y, 7, 1, 36, 0);
        due("cut(2)", y.cut(2), 11);
        StretchedCarpet z = new StretchedCarpet();
        z.cut(3);
        z.keep();
        z.undo();
        z.cut(1);
        z.back();
        due("strip(2, 3), as kept", z.strip(2, 3), 0);
        due("left(0), as kept", z.left(0), 0);
    }

    private static void count() {
        StretchedCarpet x = new StretchedCarpet();
        x.cut(3);
        due("count(3), one length", x.count(3), 0);
        x.cut(1);
        due("count(3), two", x.count(3), 1);
        x.cut(3);
        x.hook(0, 0);
        x.hook(1, 20);
        x.hook(2, 5);
        x.hook(3, 5);
        x.pass(5);
        x.seen(1, 1);
        x.seen(1, 1);
        x.keep();
        type(x, "o1;x");
        counts(x, 7, 3, 12, 2, 3, 1, 5, 2, 8, 1, 4);
        for (int bad : new int[] {-1, 11, LOWEST, HIGHEST}) {
            due("count(" + bad + ")", x.count(bad), BAD);
        }
    }

    public static void main(String[] args) {
        Runnable[] promises = {
            PromiseTest::newObject, PromiseTest::write, PromiseTest::wipe, PromiseTest::fault, PromiseTest::lay,
            PromiseTest::strip, PromiseTest::wall, PromiseTest::damp, PromiseTest::cut, PromiseTest::hook,
            PromiseTest::letGo, PromiseTest::pass, PromiseTest::undo, PromiseTest::plan, PromiseTest::order,
            PromiseTest::kickFor, PromiseTest::waves, PromiseTest::longest, PromiseTest::seen, PromiseTest::forget,
            PromiseTest::may, PromiseTest::hall, PromiseTest::left, PromiseTest::likely, PromiseTest::year,
            PromiseTest::keep, PromiseTest::back, PromiseTest::count,
        };
        for (int i = 0; i < promises.length; i++) {
            test = "promise " + (i + 1);
            promises[i].run();
        }
        end();
    }
}
