import java.io.IOException;
import java.lang.annotation.ElementType;
import java.lang.annotation.Retention;
import java.lang.annotation.RetentionPolicy;
import java.lang.annotation.Target;
import java.lang.reflect.InvocationTargetException;
import java.lang.reflect.Method;
import java.math.BigInteger;
import java.nio.file.Files;
import java.nio.file.Path;
import java.util.function.IntUnaryOperator;
import java.util.function.Supplier;
import java.util.function.ToIntFunction;

/** Every sentence of the document that names an edge has a test of its own here, which stands below its words. */
public final class EdgeTest extends CarpetTest {
    private static final Path DOCUMENT = Path.of("../shared/DOC.md");

    /** The words that a test stands for, and the promise below which they stand (0: ahead of all promises). */
    @Retention(RetentionPolicy.RUNTIME)
    @Target(ElementType.METHOD)
    private @interface Says {
        int promise() default 0;

        String value();
    }

    // ---- carpets to begin with

    /** A room of one strip, covered, its hooks hold 30, its wool gives 1 (unless more is told). */
    private static StretchedCarpet small(String more) {
        return withCuts(laid("s9,0,0;o0;h30;k1,1;" + more), 1);
    }

    /** A small one whose wall 0 alone is hooked, tight by 2. */
    private static StretchedCarpet hooked(String more) {
        StretchedCarpet x = small(more);
        x.hook(0, 0);
        return x;
    }

    /** A small one whose wall 1 alone is hooked, tight by t (1 to 19). */
    private static StretchedCarpet tightBy(int t, String more) {
        StretchedCarpet x = hooked(more);
        due("tight by " + t, x.hook(1, t + 1), t);
        x.letGo(0);
        return x;
    }

    // ---- what is due

    private static void faultAt(String text, int want) {
        due("fault() of '" + text + "'", typed(text).fault(), want);
    }

    /** Of all items with such a number, only those of least .. most are so. */
    private static void isSo(String ahead, int least, int most, String behind) {
        for (int n = 0; n <= 99; n++) {
            faultAt(ahead + n + behind, n >= least && n <= most ? NONE : 0);
        }
    }

    /** Numbers that are told are not BAD; those beside them, and those far off, are. */
    private static void told(String call, int least, int most, IntUnaryOperator answer) {
        for (int n = least; n <= most; n += n < least + 99 || n > most - 99 ? 1 : 50) {
            due(call + " of " + n + " is BAD", answer.applyAsInt(n) == BAD, false);
        }
        for (int beside : new int[] {1, 256, 65536}) {
            due(call + " of " + (least - beside), answer.applyAsInt(least - beside), BAD);
            due(call + " of " + (most + beside), answer.applyAsInt(most + beside), BAD);
        }
        due(call + " of the lowest", answer.applyAsInt(LOWEST), BAD);
        due(call + " of the highest", answer.applyAsInt(HIGHEST), BAD);
    }

    private static void isWall(StretchedCarpet x, int w, int tight, int hooked, int torn, int waves) {
        due("wall(" + w + ", 0)", x.wall(w, 0), tight);
        due("wall(" + w + ", 1)", x.wall(w, 1), hooked);
        due("wall(" + w + ", 2)", x.wall(w, 2), torn);
        due("wall(" + w + ", 3)", x.wall(w, 3), waves);
    }

    private static void planNone(StretchedCarpet x) {
        for (int k = -2; k <= 12; k++) {
            due("plan(" + k + ")", x.plan(k), NONE);
        }
    }

    private static void isYear(StretchedCarpet x, int z, int n, int torn, int tight) {
        due("year(" + z + ", " + n + ", 0)", x.year(z, n, 0), torn);
        due("year(" + z + ", " + n + ", 1)", x.year(z, n, 1), tight);
    }

    /** All that can be asked of how things stand. */
    private static String stand(StretchedCarpet x) {
        StringBuilder all = new StringBuilder();
        for (int what = 0; what <= 10; what++) {
            all.append(x.count(what)).append(' ');
        }
        for (int s = 0; s < x.count(0); s++) {
            for (int what = 0; what <= 4; what++) {
                all.append(x.strip(s, what)).append(' ');
            }
        }
        for (int w = 0; w < 4; w++) {
            for (int what = 0; what <= 3; what++) {
                all.append(x.wall(w, what)).append(' ');
            }
        }
        for (int m = 0; m <= 12; m++) {
            all.append(x.damp(m)).append(' ');
        }
        for (int what = 0; what <= 1; what++) {
            all.append(x.left(what)).append(' ').append(x.may(what)).append(' ');
        }
        return all.append(x.plan(-1)).append(' ').append(x.order(-1)).append(' ').append(x.fault()).toString();
    }

    private static String acted(StretchedCarpet x) {
        StringBuilder all = new StringBuilder();
        for (int what = 1; what <= 6; what++) {
            all.append(x.count(what)).append(' ');
        }
        for (int w = 0; w < 4; w++) {
            all.append(x.wall(w, 0)).append(' ');
        }
        return all.toString();
    }

    /** How things stand, too, when one act behind the other is undone and all that is kept comes back. */
    private static String standThrough(StretchedCarpet x) {
        StringBuilder all = new StringBuilder(stand(x));
        for (int i = 0; i < 9; i++) {
            all.append(" undo ").append(x.undo()).append(' ').append(acted(x));
        }
        all.append(stand(x));
        for (int i = 0; i < 3; i++) {
            all.append(" back ").append(x.back()).append(' ').append(acted(x));
        }
        return all.toString();
    }

    /** One that everything has come to: hooked, torn, let go, months, seen, kept, undone, with a text. */
    private static StretchedCarpet full() {
        StretchedCarpet x = covered();
        x.hook(0, 0);
        x.hook(1, 20);
        x.keep();
        x.hook(2, 9);
        x.pass(2);
        x.keep();
        x.hook(3, 9);
        x.letGo(2);
        x.pass(1);
        for (int i = 0; i < 6; i++) {
            x.seen(6, 4);
        }
        type(x, "s5,1,1;s6,9;");
        return x;
    }

    /** Such a call answers as told, and nothing changes then. */
    private static void changesNothing(
        String what, int want, Supplier<StretchedCarpet> begin, ToIntFunction<StretchedCarpet> call) {
        StretchedCarpet x = begin.get();
        due(what, call.applyAsInt(x), want);
        due("what stands behind " + what, standThrough(x), standThrough(begin.get()));
    }

    private static void changesNothing(String what, int want, ToIntFunction<StretchedCarpet> call) {
        changesNothing(what, want, EdgeTest::full, call);
    }

    // ---- 1 a text

    @Says("An object is used for at most 512 calls after it has been made")
    private static void theLastCallAnswersToo() {
        StretchedCarpet x = covered();
        for (int call = 4; call < 510; call += 2) {
            due("hook(0, 0), call " + call, x.hook(0, 0), 2);
            due("letGo(0), call " + (call + 1), x.letGo(0), 2);
        }
        due("pass(60), call 510", x.pass(60), 60);
        due("hook(1, 9), call 511", x.hook(1, 9), 2);
        due("count(4), call 512", x.count(4), 1);
    }

    @Says("A TEXT is letters (200 at most)")
    private static void twoHundredLettersAreRead() {
        StretchedCarpet x = typed("s9,1,2;".repeat(12) + "d7;".repeat(12) + "o1;".repeat(25) + "r1,9;");
        due("count(10)", x.count(10), 200);
        due("fault()", x.fault(), NONE);
        due("lay()", x.lay(), 12);
        due("count(2), the 200th letter is of it", x.count(2), 9);
    }

    @Says("A TEXT is letters (200 at most)")
    private static void anItemBrokenOffByTheLastLetter() {
        StretchedCarpet x = typed("s1,0,0;" + "o1;".repeat(64) + "o");
        due("count(10)", x.count(10), 200);
        due("write(';')", x.write(';'), FULL);
        due("fault()", x.fault(), 199);
        due("lay()", x.lay(), NO);
    }

    @Says("ITEMS one behind the other")
    private static void nothingBetweenItems() {
        for (String between : new String[] {" ", ";", ",", "0", "x"}) {
            faultAt("s1,0,0;" + between + "s1,0,0;", 7);
            faultAt(between + "s1,0,0;", 0);
            faultAt("s1,0,0;" + between, 7);
        }
    }

    @Says("each a letter, then numbers")
    private static void noOtherLetters() {
        for (char letter = 32; letter <= 126; letter++) {
            faultAt(letter + "1;", "ohd".indexOf(letter) >= 0 ? NONE : 0);
            faultAt(letter + "1,1;", "rk".indexOf(letter) >= 0 ? NONE : 0);
            faultAt(letter + "1,1,1;", letter == 's' ? NONE : 0);
            faultAt(letter + "1,1,1,1;", 0);
            faultAt(letter + ";", 0);
            faultAt("" + letter, 0);
        }
    }

    @Says("(one or two figures)")
    private static void noFigureAndThree() {
        faultAt("s01,02,03;", NONE);
        for (String text : new String[] {"s,2,3;", "s1,,3;", "s1,2,;", "s001,2,3;", "s1,002,3;", "s1,2,003;"}) {
            faultAt(text, 0);
        }
        for (String letter : new String[] {"o", "h", "d"}) {
            faultAt(letter + "01;", NONE);
            faultAt(letter + "001;", 0);
            faultAt(letter + ";", 0);
        }
        for (String letter : new String[] {"r", "k"}) {
            faultAt(letter + "01,02;", NONE);
            faultAt(letter + "001,2;", 0);
            faultAt(letter + "1,002;", 0);
            faultAt(letter + ",2;", 0);
            faultAt(letter + "1,;", 0);
        }
    }

    @Says("(one or two figures)")
    private static void figuresAreThoseOfAscii() {
        for (char figure = 32; figure <= 126; figure++) {
            faultAt("s1,0," + figure + ";", figure >= '0' && figure <= '9' ? NONE : 0);
            faultAt("s1" + figure + ",0,0;", figure >= '0' && figure <= '9' ? NONE : 0);
        }
    }

    @Says("parted by ,")
    private static void partedByNothingElse() {
        for (char sign = 32; sign <= 126; sign++) {
            faultAt("s1" + sign + "2,3;", sign == ',' ? NONE : 0);
            faultAt("k1" + sign + "2;", sign == ',' ? NONE : 0);
        }
    }

    @Says("and a ; behind the last one")
    private static void closedByNothingElse() {
        for (char sign = 32; sign <= 126; sign++) {
            faultAt("s1,0,0" + sign, sign == ';' ? NONE : 0);
            faultAt("r1,2" + sign, sign == ';' ? NONE : 0);
        }
        for (String text : new String[] {"s1,0,0", "r1,2", "o1", "h1", "k1,1", "d1", "s1,0", "s1,0,", "s1", "s"}) {
            faultAt(text, 0);
            faultAt("d0;" + text, 3);
        }
    }

    @Says("L (1 to 40) long")
    private static void stripsByLength() {
        isSo("s", 1, 40, ",5,5;");
        due("strip(0, 0)", laid("s1,5,5;").strip(0, 0), 1);
        due("strip(0, 0)", laid("s40,5,5;").strip(0, 0), 40);
    }

    @Says("with LIGHT G (0 to 9)")
    private static void stripsByLight() {
        isSo("s5,", 0, 9, ",5;");
        due("strip(0, 1)", laid("s5,0,5;").strip(0, 1), 0);
        due("strip(0, 1)", laid("s5,9,5;").strip(0, 1), 9);
    }

    @Says("and TREAD W (0 to 9) at its right edge")
    private static void stripsByTread() {
        isSo("s5,5,", 0, 9, ";");
        due("strip(0, 2)", laid("s5,5,0;").strip(0, 2), 0);
        due("strip(0, 2)", laid("s5,5,9;").strip(0, 2), 9);
    }

    @Says("12 at most, 0, 1, .. from left to right")
    private static void twelveStrips() {
        StretchedCarpet x = typed("s5,1,2;".repeat(11) + "s7,3,4;");
        due("fault()", x.fault(), NONE);
        due("lay()", x.lay(), 12);
        due("strip(11, 0)", x.strip(11, 0), 7);
        due("strip(12, 0)", x.strip(12, 0), BAD);
        type(x, "s1,1,1;");
        due("fault(), 13", x.fault(), 84);
        due("lay(), 13", x.lay(), NO);
        faultAt("s5,1,2;".repeat(12) + "o1;s5,1,2;x", 87);
    }

    @Says("the ROLL is B (1 to 6) STRIPS broad")
    private static void rollsByBreadth() {
        isSo("r", 1, 6, ",50;");
        due("left(1)", laid("s1,0,0;r1,50;").left(1), 50);
        due("left(1)", laid("s1,0,0;r6,50;").left(1), 300);
    }

    @Says("N (1 to 99) long")
    private static void rollsByLength() {
        isSo("r3,", 1, 99, ";");
        faultAt("r3,100;", 0);
        due("count(2)", laid("s1,0,0;r3,1;").count(2), 1);
        due("count(2)", laid("s1,0,0;r3,99;").count(2), 99);
    }

    @Says("(3, 60 without; of several the last one counts)")
    private static void noRollAndSeveral() {
        StretchedCarpet x = laid("s1,0,0;");
        due("left(1), without", x.left(1), 180);
        due("count(2), without", x.count(2), 60);
        x = laid("r6,99;s1,0,0;r2,30;r1,40;");
        due("left(1), the last", x.left(1), 40);
        due("count(2), the last", x.count(2), 40);
        faultAt("r0,9;r1,9;", 0);
    }

    @Says("O (0 to 5) is CUT OVER each length")
    private static void cutOver() {
        isSo("o", 0, 5, ";");
        due("cut(1)", laid("s7,0,0;o0;").cut(1), 7);
        due("cut(1)", laid("s7,0,0;o5;").cut(1), 12);
    }

    @Says("(2 without; of several the last one counts)")
    private static void nothingToldOfCutOverAndSeveral() {
        due("cut(1), without", laid("s7,0,0;").cut(1), 9);
        due("cut(1), the last", laid("o5;s7,0,0;o3;o1;").cut(1), 8);
        due("cut(1), the last", laid("s7,0,0;o5;o0;").cut(1), 7);
        faultAt("o6;o1;", 0);
    }

    @Says("a WALL's HOOKS hold H (1 to 30)")
    private static void hooksByHold() {
        isSo("h", 1, 30, ";");
        due("hook(0, 0), 1 holds", small("h1;").hook(0, 0), 0);
        due("kickFor(3, 30), 30 hold", highest("h30;").kickFor(3, 30), 17);
        due("kickFor(3, 30), 29 hold", highest("h29;").kickFor(3, 30), NONE);
    }

    /** Walls 0 and 1 are hooked, 1 as tight as it can become in three kicks: by 28. */
    private static StretchedCarpet highest(String more) {
        StretchedCarpet x = hooked(more);
        x.hook(3, 20);
        due("hook(1, 20)", x.hook(1, 20), 28);
        x.letGo(3);
        return x;
    }

    @Says("(12 without; of several the last one counts)")
    private static void nothingToldOfHooksAndSeveral() {
        StretchedCarpet x = withCuts(laid("s9,0,0;k1,1;"), 1);
        x.hook(0, 0);
        due("kickFor(1, 12), without", x.kickFor(1, 12), 13);
        due("kickFor(1, 13), without", x.kickFor(1, 13), NONE);
        StretchedCarpet y = hooked("h1;h20;h5;");
        due("kickFor(1, 5), the last", y.kickFor(1, 5), 6);
        due("kickFor(1, 6), the last", y.kickFor(1, 6), NONE);
        faultAt("h31;h5;", 0);
    }

    @Says("the STUFF is of KIND K (0 JUTE, 1 WOOL, 2 RUBBER, 3 OLD)")
    private static void stuffByKind() {
        isSo("k", 0, 3, ",5;");
        int[] gives = {2, 5, 10, 6};
        for (int kind = 0; kind <= 3; kind++) {
            due("hook(1, 20), kind " + kind, hooked("k" + kind + ",5;").hook(1, 20), 20 - gives[kind]);
        }
    }

    @Says("GIVES G (1 to 9)")
    private static void stuffByWhatItGives() {
        isSo("k1,", 1, 9, ";");
        due("hook(1, 20)", hooked("k1,1;").hook(1, 20), 19);
        due("hook(1, 20)", hooked("k1,9;").hook(1, 20), 11);
    }

    @Says("(0, 3 without; of several the last one counts)")
    private static void nothingToldOfStuffAndSeveral() {
        StretchedCarpet x = withCuts(laid("s9,0,0;"), 1);
        x.hook(0, 0);
        due("hook(1, 10), without", x.hook(1, 10), 9);
        x.seen(6, 6);
        due("may(1), without: JUTE", x.may(1), 1 << 2 | 1 << 3);
        x.forget();
        x.seen(6, 4);
        due("may(0), without: 3", x.may(0), 2);
        due("hook(1, 10), the last", hooked("k3,9;k0,9;k2,2;").hook(1, 10), 6);
        faultAt("k4,1;k1,1;", 0);
    }

    @Says("the DAMP of a month is D (0 to 9)")
    private static void monthsByDamp() {
        isSo("d", 0, 9, ";");
        due("damp(0)", small("d0;").damp(0), 0);
        due("damp(0)", small("d9;").damp(0), 9);
    }

    @Says("12 at most, month 0, 1, ..")
    private static void twelveMonths() {
        String twelve = "d0;d1;d2;d3;d4;d5;d6;d7;d8;d9;d8;d7;";
        faultAt(twelve, NONE);
        faultAt(twelve + "d1;", 36);
        faultAt(twelve + "o1;r1,1;d1;x", 44);
        due("lay(), 13", typed("s1,0,0;" + twelve + "d1;").lay(), NO);
        StretchedCarpet x = laid("s1,0,0;" + twelve);
        for (int m = 0; m < 12; m++) {
            due("damp(" + m + ")", x.damp(m), twelve.charAt(3 * m + 1) - '0');
        }
    }

    @Says("then again from the first on")
    private static void monthsFromTheFirstOnAgain() {
        StretchedCarpet x = laid("s1,0,0;d9;d1;d2;d3;d4;d5;d6;d7;d8;d0;d3;d7;");
        due("damp(12)", x.damp(12), 9);
        due("damp(23)", x.damp(23), 7);
        due("damp(24)", x.damp(24), 9);
        due("damp(999)", x.damp(999), 3);
        StretchedCarpet two = laid("s1,0,0;d9;d1;");
        due("damp(2)", two.damp(2), 9);
        due("damp(999)", two.damp(999), 1);
        StretchedCarpet one = laid("s1,0,0;d5;");
        due("damp(1)", one.damp(1), 5);
        due("damp(999)", one.damp(999), 5);
    }

    @Says("then again from the first on")
    private static void monthsThatGoByFromTheFirstOnAgain() {
        StretchedCarpet x = tightBy(19, "d9;d0;d3;");
        int[] want = {16, 16, 15, 12, 12, 11, 8};
        for (int m = 0; m < want.length; m++) {
            x.pass(1);
            due("wall(1, 0) behind month " + m, x.wall(1, 0), want[m]);
        }
    }

    @Says("(4 always without)")
    private static void nothingToldOfDamp() {
        StretchedCarpet x = tightBy(19, "");
        for (int m : new int[] {0, 1, 11, 12, 999}) {
            due("damp(" + m + ")", x.damp(m), 4);
        }
        x.pass(13);
        due("wall(1, 0) behind 13", x.wall(1, 0), 6);
    }

    @Says("FAULT: the place (from 0 on) of the first letter of the first ITEM that is not so.")
    private static void theFirstOfSeveralFaults() {
        faultAt("x", 0);
        faultAt("d4;o6;h0;x", 3);
        faultAt("s1,0,0;s1,0,10;s0,0,0;", 7);
        faultAt("s1,0,0;r6,99;r6,9", 13);
        faultAt("o1;o2;o3;o", 9);
        faultAt("o1;".repeat(66) + "~", 198);
    }

    // ---- laid

    @Says("LAID is a TEXT without FAULT, of a STRIP at least (NO else")
    private static void oneStripAtLeast() {
        String[] notLaid = {"", "r3,50;", "o2;h12;k1,3;d3;", "s1,0,0", "s1,0,0;x", "xs1,0,0;", "o6;s1,0,0;"};
        for (String text : notLaid) {
            due("lay() of '" + text + "'", typed(text).lay(), NO);
        }
        due("lay() of one", typed("s1,0,0;").lay(), 1);
        due("lay() of one, behind others", typed("r3,50;o2;s1,0,0;").lay(), 1);
    }

    @Says("at first s11,3,2;s11,7,1;s12,2,8;s9,1,3;s9,5,0;s11,0,6;s11,4,4;r3,50;o2;h12;k1,3;d3;d5;d8;d2;")
    private static void theFirstRoomIsAsIfLaid() {
        StretchedCarpet x =
            laid("s11,3,2;s11,7,1;s12,2,8;s9,1,3;s9,5,0;s11,0,6;s11,4,4;r3,50;o2;h12;k1,3;d3;d5;d8;d2;");
        x.wipe();
        StretchedCarpet y = new StretchedCarpet();
        due("stand", stand(y), stand(x));
        for (StretchedCarpet each : new StretchedCarpet[] {x, y}) {
            withCuts(each, 3, 1, 3);
            each.hook(0, 0);
            each.hook(1, 15);
            each.hook(2, 16);
            each.pass(3);
            each.seen(4, 2);
        }
        due("stand", stand(y), stand(x));
    }

    // ---- 2 lengths

    @Says("for b (1 to B) of them")
    private static void asBroadAsTheRollAndBroader() {
        for (int broad = 1; broad <= 6; broad++) {
            String text = "s4,0,0;".repeat(6) + "r" + broad + ",60;";
            for (int b = 1; b <= 6; b++) {
                due("cut(" + b + ") of " + broad, laid(text).cut(b), b <= broad ? 6 : NO);
            }
        }
    }

    @Says("each for the next STRIPS from the left that have none")
    private static void fromTheLeft() {
        StretchedCarpet x = withCuts(laid("s1,0,0;s2,0,0;s3,0,0;s4,0,0;o0;"), 2);
        int[] want = {0, 0, NONE, NONE};
        for (int s = 0; s < 4; s++) {
            due("strip(" + s + ", 3)", x.strip(s, 3), want[s]);
        }
        due("cut(1), the next", x.cut(1), 3);
        due("cut(1), the last", x.cut(1), 4);
        due("cut(1), none", x.cut(1), NO);
    }

    @Says("as long as the longest of these, and O")
    private static void theLongestFirstOrLastOrBeside() {
        due("cut(3), the first", laid("s9,0,0;s1,0,0;s2,0,0;s30,0,0;o0;").cut(3), 9);
        due("cut(3), the last", laid("s1,0,0;s2,0,0;s9,0,0;s30,0,0;o0;").cut(3), 9);
        due("cut(3), the one between", laid("s1,0,0;s9,0,0;s2,0,0;s30,0,0;o1;").cut(3), 10);
        due("cut(1), not the one before", withCuts(laid("s30,0,0;s1,0,0;o5;"), 1).cut(1), 6);
    }

    @Says("What is left of the ROLL is that much shorter")
    private static void theRollToItsEnd() {
        StretchedCarpet x = withCuts(laid("s4,0,0;s5,0,0;r2,9;o0;"), 1);
        due("count(2)", x.count(2), 5);
        due("cut(1), all of it", x.cut(1), 5);
        due("count(2), none", x.count(2), 0);
        due("left(1), none", x.left(1), 0);
    }

    @Says("the rest of the breadth (B less b STRIPS broad) is a REST that long")
    private static void noRestAndTheBroadestOne() {
        StretchedCarpet x = withCuts(laid("s4,0,0;".repeat(7) + "r6,60;o1;"), 6);
        due("left(0), as broad as the ROLL", x.left(0), 0);
        due("hall(1, 1), no REST", x.hall(1, 1), 2);
        x.cut(1);
        due("left(0), 5 broad, 5 long", x.left(0), 25);
        due("hall(5, 5)", x.hall(5, 5), 1);
        due("hall(5, 6)", x.hall(5, 6), 2);
        due("hall(6, 5)", x.hall(6, 5), 2);
    }

    @Says("Where one LENGTH ends and another one begins is a SEAM")
    private static void noSeamAtTheEnds() {
        StretchedCarpet x = laid("s4,0,0;".repeat(4));
        int[][] seams = {{0, 0, 0, 0}, {0, 0, 0, 0}, {1, 0, 0, 0}, {1, 0, 1, 0}};
        int[] breadths = {1, 2, 1};
        for (int cut = 0; cut <= 3; cut++) {
            for (int s = 0; s < 4; s++) {
                due("strip(" + s + ", 4) behind " + cut, x.strip(s, 4), seams[cut][s]);
            }
            due("count(3) behind " + cut, x.count(3), Math.max(0, cut - 1));
            if (cut < 3) {
                x.cut(breadths[cut]);
            }
        }
    }

    @Says("it is SEEN by LIGHT and WORN by TREAD at the right edge of the last STRIP of the one")
    private static void aSeamBySoMuch() {
        due("plan(-2)", laid("s4,9,9;s4,0,0;r1,60;").plan(-2), 18);
        due("plan(-2)", laid("s4,1,0;s4,9,9;r1,60;").plan(-2), 1);
        due("plan(-2)", laid("s4,0,2;s4,9,9;r1,60;").plan(-2), 2);
    }

    // ---- hooks

    @Says("When all STRIPS have one, WALLS 0 (left), 1 (behind), 2 (right), 3 (before) can be HOOKED")
    private static void notBeforeTheLastLength() {
        StretchedCarpet x = new StretchedCarpet();
        for (int b : new int[] {3, 3, 1}) {
            for (int w = 0; w < 4; w++) {
                due("hook(" + w + ", 0), some without", x.hook(w, 0), NO);
            }
            x.cut(b);
        }
        counts(x, 7, 3, 10, 2, 0, 0, 0, 0, 3);
        due("hook(0, 0), all", x.hook(0, 0), 2);
    }

    @Says("in any order, once each")
    private static void eachWallOnce() {
        for (int first = 0; first < 4; first++) {
            StretchedCarpet x = covered();
            for (int i = 0; i < 4; i++) {
                int w = (first + 3 * i) % 4;
                due("hook(" + w + ", 9)", x.hook(w, 9) > 0, true);
                due("hook(" + w + ", 9), again", x.hook(w, 9), NO);
                due("count(4)", x.count(4), i + 1);
            }
        }
    }

    @Says("TIGHT is a WALL by a number, 0 at first.")
    private static void slackAtFirst() {
        StretchedCarpet x = new StretchedCarpet();
        tight(x, 0, 0, 0, 0);
        withCuts(x, 3, 1, 3);
        tight(x, 0, 0, 0, 0);
        x.hook(2, 9);
        tight(x, 0, 0, 2, 0);
    }

    @Says("Where none is HOOKED, the one that is is TIGHT by 2, whatever the KICK.")
    private static void theFirstByEachKick() {
        for (String stuff : new String[] {"k0,1;", "k1,9;", "k2,9;", "k3,9;"}) {
            for (int f = 0; f <= 20; f++) {
                due("hook(" + f % 4 + ", " + f + "), " + stuff, small(stuff).hook(f % 4, f), 2);
            }
        }
    }

    @Says("Where none is HOOKED, the one that is is TIGHT by 2, whatever the KICK.")
    private static void theFirstOnceMore() {
        StretchedCarpet x = hooked("h12;");
        x.hook(1, 9);
        due("hook(2, 20), torn", x.hook(2, 20), 0);
        x.letGo(0);
        x.letGo(1);
        due("hook(3, 20), one is torn, none HOOKED", x.hook(3, 20), 2);
        x.letGo(3);
        due("hook(3, 0), none HOOKED", x.hook(3, 0), 2);
    }

    @Says("HOOKED with a KICK of f (0 to 20)")
    private static void noKickAndTheHardest() {
        due("hook(1, 0)", hooked("").hook(1, 0), 0);
        due("hook(1, 20)", hooked("").hook(1, 20), 19);
        due("hook(1, -1)", hooked("").hook(1, -1), BAD);
        due("hook(1, 21)", hooked("").hook(1, 21), BAD);
    }

    @Says("it is TIGHT by f and half of how TIGHT the one opposite is (0 to 2, 1 to 3), cut")
    private static void halfOfTheOneOpposite() {
        int[] opposite = {2, 3, 0, 1};
        for (int w = 0; w < 4; w++) {
            for (int other = 0; other < 4; other++) {
                StretchedCarpet x = small("");
                x.hook(w, 0);
                int want = other == w ? NO : other == opposite[w] ? 10 : 9;
                due("hook(" + other + ", 10) by " + w, x.hook(other, 10), want);
            }
        }
        for (int t = 1; t <= 19; t++) {
            due("hook(3, 8), opposite " + t, tightBy(t, "").hook(3, 8), 8 + t / 2 - 1);
        }
    }

    @Says("if that is HOOKED")
    private static void nothingOfOneThatIsNotHooked() {
        StretchedCarpet x = hooked("h15;");
        x.hook(1, 11);
        x.letGo(1);
        due("hook(3, 11), opposite let go", x.hook(3, 11), 10);
        x.letGo(3);
        due("hook(1, 20), torn", x.hook(1, 20), 0);
        due("hook(3, 11), opposite torn", x.hook(3, 11), 10);
    }

    @Says("less what the STUFF GIVES, 0 at least")
    private static void neverLessThanNothing() {
        for (int f = 0; f <= 20; f++) {
            due("hook(1, " + f + "), gives 9", hooked("k1,9;").hook(1, f), Math.max(0, f - 9));
            due("hook(1, " + f + "), gives 18", hooked("k2,9;").hook(1, f), Math.max(0, f - 18));
        }
        StretchedCarpet x = hooked("k1,9;");
        due("hook(1, 0)", x.hook(1, 0), 0);
        isWall(x, 1, 0, 1, 0, 1);
    }

    @Says("JUTE half of G, cut")
    private static void jute() {
        for (int g = 1; g <= 9; g++) {
            due("hook(1, 20), JUTE " + g, hooked("k0," + g + ";").hook(1, 20), 20 - g / 2);
        }
    }

    @Says("WOOL G, RUBBER twice G")
    private static void woolAndRubber() {
        for (int g = 1; g <= 9; g++) {
            due("hook(1, 20), WOOL " + g, hooked("k1," + g + ";").hook(1, 20), 20 - g);
            due("hook(1, 20), RUBBER " + g, hooked("k2," + g + ";").hook(1, 20), 20 - 2 * g);
        }
    }

    @Says("an OLD one G and 1 for each WALL that is HOOKED already")
    private static void anOldOne() {
        StretchedCarpet x = hooked("k3,2;");
        due("hook(1, 10), 1 HOOKED", x.hook(1, 10), 7);
        due("hook(2, 10), 2 HOOKED", x.hook(2, 10), 10 + 1 - 4);
        due("hook(3, 10), 3 HOOKED", x.hook(3, 10), 10 + 3 - 5);
        x.letGo(0);
        x.letGo(3);
        due("hook(3, 10), 2 still", x.hook(3, 10), 10 + 3 - 4);
        StretchedCarpet torn = hooked("k3,2;h12;");
        torn.hook(1, 20);
        torn.hook(3, 20);
        due("hook(2, 10), 1 HOOKED, 2 torn", torn.hook(2, 10), 10 + 1 - 3);
    }

    @Says("A WALL that would be TIGHTER than H TEARS")
    private static void justHeldAndTorn() {
        for (int h = 2; h <= 18; h++) {
            due("hook(1, " + (h + 1) + "), " + h + " hold", hooked("h" + h + ";").hook(1, h + 1), h);
            StretchedCarpet x = hooked("h" + h + ";");
            due("hook(1, " + (h + 2) + "), " + h + " hold", x.hook(1, h + 2), 0);
            isWall(x, 1, 0, 0, 1, 0);
        }
        due("hook(3, 17), 30 hold", highest("").hook(3, 17), 30);
        due("hook(3, 18), 30 hold", highest("").hook(3, 18), 0);
    }

    @Says("(the first one, too)")
    private static void theFirstTears() {
        StretchedCarpet x = small("h1;");
        due("hook(2, 0), 1 holds", x.hook(2, 0), 0);
        isWall(x, 2, 0, 0, 1, 0);
        due("hook(0, 20), 1 holds, none HOOKED", x.hook(0, 20), 0);
        counts(x, 1, 1, 51, 0, 0, 2);
        StretchedCarpet y = small("h2;");
        due("hook(2, 0), 2 hold", y.hook(2, 0), 2);
        isWall(y, 2, 2, 1, 0, 0);
    }

    @Says("it is TIGHT by 0, torn, not HOOKED, and can not be HOOKED any more")
    private static void tornForGood() {
        StretchedCarpet x = hooked("h12;");
        x.hook(1, 14);
        for (int f = 0; f <= 20; f++) {
            due("hook(1, " + f + "), torn", x.hook(1, f), NO);
        }
        due("letGo(1), torn", x.letGo(1), NO);
        isWall(x, 1, 0, 0, 1, 0);
        x.letGo(0);
        x.pass(60);
        due("hook(1, 0), none HOOKED", x.hook(1, 0), NO);
        isWall(x, 1, 0, 0, 1, 0);
        counts(x, 1, 1, 51, 0, 0, 1);
    }

    @Says("A WALL can be LET GO (it is not HOOKED then, TIGHT by 0).")
    private static void letGoAndHookedAgain() {
        StretchedCarpet x = hooked("");
        x.hook(1, 10);
        due("letGo(1)", x.letGo(1), 9);
        isWall(x, 1, 0, 0, 0, 0);
        isWall(x, 0, 2, 1, 0, 0);
        due("hook(1, 5)", x.hook(1, 5), 4);
        isWall(x, 1, 4, 1, 0, 0);
    }

    @Says("By a MONTH each HOOKED one is less TIGHT by the DAMP of the month that it is by 3, cut, 0 at least")
    private static void byEachDamp() {
        for (int d = 0; d <= 9; d++) {
            StretchedCarpet x = hooked("d" + d + ";");
            x.hook(1, 11);
            x.pass(1);
            tight(x, Math.max(0, 2 - d / 3), 10 - d / 3, 0, 0);
        }
    }

    @Says("By a MONTH each HOOKED one is less TIGHT by the DAMP of the month that it is by 3, cut, 0 at least")
    private static void notLessThanSlack() {
        StretchedCarpet x = hooked("d9;");
        x.hook(1, 4);
        x.pass(1);
        tight(x, 0, 0, 0, 0);
        x.pass(60);
        tight(x, 0, 0, 0, 0);
        isWall(x, 1, 0, 1, 0, 1);
        due("hook(3, 5), opposite 0", x.hook(3, 5), 4);
    }

    @Says("then it is the next month")
    private static void theDampOfTheMonthThatItIs() {
        StretchedCarpet x = tightBy(10, "d9;d0;d6;");
        due("pass(1)", x.pass(1), 1);
        due("wall(1, 0) behind month 0", x.wall(1, 0), 7);
        due("pass(1)", x.pass(1), 2);
        due("wall(1, 0) behind month 1", x.wall(1, 0), 7);
        due("pass(1)", x.pass(1), 3);
        due("wall(1, 0) behind month 2", x.wall(1, 0), 5);
        StretchedCarpet y = tightBy(10, "d9;d0;d6;");
        due("pass(3)", y.pass(3), 3);
        due("wall(1, 0) behind months 0 to 2", y.wall(1, 0), 5);
    }

    @Says("It WAVES at a HOOKED WALL that is TIGHT by less than 2.")
    private static void justTightEnough() {
        StretchedCarpet x = hooked("h12;");
        x.hook(1, 3);
        isWall(x, 1, 2, 1, 0, 0);
        x.letGo(1);
        isWall(x, 1, 0, 0, 0, 0);
        x.hook(1, 2);
        isWall(x, 1, 1, 1, 0, 1);
        x.hook(3, 1);
        isWall(x, 3, 0, 1, 0, 1);
        x.hook(2, 20);
        isWall(x, 2, 0, 0, 1, 0);
    }

    // ---- undone

    @Says("UNDONE is the latest cut, KICK, letting go, MONTHS")
    private static void eachActUndone() {
        StretchedCarpet x = new StretchedCarpet();
        String bare = stand(x);
        x.cut(3);
        x.undo();
        due("a cut", stand(x), bare);
        withCuts(x, 3, 1, 3);
        due("undo()", x.undo(), 2);
        due("count(2)", x.count(2), 25);
        due("strip(4, 3)", x.strip(4, 3), NONE);
        due("left(0)", x.left(0), 22);

        StretchedCarpet y = covered();
        y.hook(0, 0);
        y.hook(1, 9);
        y.undo();
        isWall(y, 1, 0, 0, 0, 0);
        y.hook(1, 20);
        y.undo();
        isWall(y, 1, 0, 0, 0, 0);
        y.letGo(0);
        y.undo();
        isWall(y, 0, 2, 1, 0, 0);
        y.pass(1);
        y.undo();
        isWall(y, 0, 2, 1, 0, 0);
        due("count(6)", y.count(6), 0);
        due("count(8)", y.count(8), 4);
    }

    @Says("(all of one call at once")
    private static void allMonthsOfACallAtOnce() {
        StretchedCarpet x = tightBy(19, "");
        x.pass(1);
        x.pass(60);
        due("count(6)", x.count(6), 61);
        due("undo()", x.undo(), 5);
        due("count(6)", x.count(6), 1);
        due("wall(1, 0)", x.wall(1, 0), 18);
        due("undo()", x.undo(), 4);
        due("count(6)", x.count(6), 0);
        due("wall(1, 0)", x.wall(1, 0), 19);
    }

    @Says("such by which nothing becomes another, too")
    private static void whatChangesLittleIsUndoneToo() {
        StretchedCarpet x = hooked("d0;");
        x.hook(1, 0);
        due("count(8), a slack kick", x.count(8), 3);
        x.pass(60);
        due("count(8), dry months", x.count(8), 4);
        x.letGo(1);
        due("count(8), letting go a slack one", x.count(8), 5);
        x.undo();
        isWall(x, 1, 0, 1, 0, 1);
        x.undo();
        due("count(6)", x.count(6), 0);
        x.undo();
        isWall(x, 1, 0, 0, 0, 0);
        due("count(8)", x.count(8), 2);
    }

    @Says("the last 8 can be")
    private static void eightAndNotNine() {
        StretchedCarpet x = new StretchedCarpet();
        for (int i = 1; i <= 8; i++) {
            x.pass(i);
            due("count(8) behind " + i, x.count(8), i);
        }
        int[] months = {28, 21, 15, 10, 6, 3, 1, 0};
        for (int i = 0; i < 8; i++) {
            due("undo()", x.undo(), 7 - i);
            due("count(6)", x.count(6), months[i]);
        }
        due("undo(), none", x.undo(), NO);
        for (int i = 1; i <= 9; i++) {
            x.pass(i);
        }
        due("count(8) behind 9", x.count(8), 8);
        for (int i = 0; i < 8; i++) {
            x.undo();
        }
        due("undo(), the ninth", x.undo(), NO);
        due("count(6), the first stays", x.count(6), 1);
    }

    @Says("the last 8 can be")
    private static void eightAgainAndAgain() {
        StretchedCarpet x = new StretchedCarpet();
        for (int i = 0; i < 20; i++) {
            x.pass(1);
        }
        for (int i = 0; i < 5; i++) {
            x.undo();
        }
        due("count(6)", x.count(6), 15);
        for (int i = 0; i < 6; i++) {
            x.pass(2);
        }
        due("count(8)", x.count(8), 8);
        for (int month : new int[] {25, 23, 21, 19, 17, 15, 14, 13}) {
            x.undo();
            due("count(6)", x.count(6), month);
        }
        due("undo()", x.undo(), NO);
    }

    // ---- 3 what to do

    @Says("From now on (beyond month 999, too).")
    private static void beyondTheLastMonth() {
        // by 4 months 0, 0, 9, 3: 998 is by 9, 999 by 3, 1000 and 1001 by 0, 1002 by 9
        StretchedCarpet x = passedTo(small("d0;d0;d9;d3;"), 998);
        x.hook(0, 0);
        x.hook(1, 7);
        x.letGo(0);
        due("waves(), at 998, by 6", x.waves(), 5);
        x.pass(1);
        due("waves(), at 999, by 3", x.waves(), 4);
        due("longest()", x.longest(), 1);
        x.hook(2, 15);
        due("longest(), by 14 and 3", x.longest(), 2);
        due("waves()", x.waves(), 4);
        x.letGo(1);
        due("waves(), by 14", x.waves(), 13);
        due("pass(1)", x.pass(1), NO);
        due("plan(-1)", x.plan(-1), 0);
        ordered(x, 8, 0, 1, 3);
        due("kickFor(0, 9)", x.kickFor(0, 9), 3);
    }

    @Says("From now on (beyond month 999, too).")
    private static void aYearBeyondTheLastMonth() {
        isYear(passedTo(covered(), 999), 0, 1, 0, 2);
        isYear(passedTo(covered(), 999), 7, 40, 0, 14);
        isYear(passedTo(covered(), 998), 7, 40, 0, 12);
    }

    @Says("of all ways to cut LENGTHS for all STRIPS that have none")
    private static void onlyForThoseThatHaveNone() {
        StretchedCarpet x = laid("s9,0,0;s9,0,0;s9,0,0;s4,0,0;r3,60;o1;");
        planned(x, 15, 0, 3, 1);
        x.cut(1);
        planned(x, 10, 0, 3);
        x.cut(2);
        planned(x, 5, 0, 1);
    }

    @Says("for which the ROLL does")
    private static void theRollJustDoes() {
        planned(laid("s4,0,0;s4,0,0;r1,8;o0;"), 8, 0, 1, 1);
        planNone(laid("s4,0,0;s4,0,0;r1,7;o0;"));
        StretchedCarpet x = withCuts(laid("s9,0,0;s3,0,0;s4,0,0;r2,14;o1;"), 1);
        due("count(2)", x.count(2), 4);
        planNone(x);
        StretchedCarpet y = withCuts(laid("s9,0,0;s3,0,0;s4,0,0;r2,15;o1;"), 1);
        planned(y, 5, 0, 2);
    }

    @Says("that by which least is cut off it")
    private static void lessCutGoesAheadOfSeams() {
        planned(laid("s2,9,9;s9,0,0;s9,0,0;r2,60;o0;"), 11, 18, 1, 2);
        planned(laid("s9,0,0;s9,9,9;s2,0,0;r2,60;o0;"), 11, 18, 2, 1);
        planned(laid("s9,9,9;s8,0,0;s8,0,0;r2,60;o0;"), 17, 0, 2, 1);
    }

    @Says("of several that whose new SEAMS (that with the LENGTH cut last, too) are SEEN and WORN least")
    private static void leastSeams() {
        planned(laid("s5,9,0;s5,0,0;s5,0,9;s5,0,0;r3,60;o0;"), 10, 0, 2, 2);
        planned(laid("s5,0,8;s5,9,0;s5,0,9;s5,0,0;r3,60;o0;"), 10, 8, 1, 3);
        planned(laid("s5,0,9;s5,9,0;s5,8,0;s5,0,0;r3,60;o0;"), 10, 8, 3, 1);
        planned(laid("s5,5,4;s5,4,4;s5,0,9;s5,0,0;r3,60;o0;"), 10, 8, 2, 2);
    }

    @Says("(that with the LENGTH cut last, too)")
    private static void theSeamWithTheLengthCutLast() {
        StretchedCarpet x = laid("s5,3,4;s5,1,1;s5,9,9;r1,60;");
        planned(x, 21, 9, 1, 1, 1);
        x.cut(1);
        planned(x, 14, 9, 1, 1);
        x.cut(1);
        planned(x, 7, 2, 1);
        x.cut(1);
        planned(x, 0, 0);
    }

    @Says("then the first (by the breadth of the first LENGTH, the least, then ..)")
    private static void theFirstOfSeveralWays() {
        planned(laid("s5,0,0;".repeat(4) + "r3,60;o0;"), 10, 0, 1, 3);
        planned(laid("s5,1,1;".repeat(5) + "r2,60;"), 21, 4, 1, 2, 2);
        planned(laid("s5,9,9;" + "s5,0,0;".repeat(6) + "r3,60;o0;"), 15, 0, 2, 2, 3);
        planned(withCuts(laid("s5,1,1;".repeat(6) + "r3,60;o0;"), 2), 10, 4, 1, 3);
    }

    @Says("of all ways to cut LENGTHS for all STRIPS that have none")
    private static void ofTheRoomThatIsLaidNow() {
        StretchedCarpet x = laid("s9,9,9;".repeat(12) + "r1,99;o0;");
        planNone(x);
        x.wipe();
        type(x, "s5,1,0;s6,0,0;r1,20;o0;");
        x.lay();
        planned(x, 11, 1, 1, 1);
    }

    @Says("none (the ROLL does for no way)")
    private static void noWay() {
        planNone(laid("s40,0,0;r1,1;o0;"));
        planNone(laid("s40,9,9;".repeat(12) + "r6,84;o3;"));
        planned(laid("s40,9,9;".repeat(12) + "r6,86;o3;"), 86, 18, 6, 6);
        planned(laid("s40,9,9;".repeat(12) + "r6,99;o5;"), 90, 18, 6, 6);
    }

    @Says("(0, 0, if all STRIPS have one.)")
    private static void nothingLeftToPlan() {
        planned(covered(), 0, 0);
        StretchedCarpet x = withCuts(laid("s5,9,9;s5,9,9;r1,10;o0;"), 1, 1);
        due("count(2)", x.count(2), 0);
        planned(x, 0, 0);
    }

    @Says("of all orders to HOOK the WALLS that are neither HOOKED nor torn")
    private static void onlyFreeWalls() {
        StretchedCarpet x = covered();
        ordered(x, 18, 0, 1, 2, 3);
        x.hook(2, 0);
        ordered(x, 18, 0, 1, 3);
        x.hook(1, 20);
        ordered(x, 13, 0, 3);
        x.hook(0, 6);
        ordered(x, 7, 3);
        x.hook(3, 7);
        ordered(x, 0);
        StretchedCarpet torn = small("h1;");
        for (int w = 0; w < 4; w++) {
            torn.hook(w, 0);
        }
        ordered(torn, 0);
    }

    @Says("(as if all STRIPS had a LENGTH)")
    private static void orderedAheadOfTheLengths() {
        ordered(new StretchedCarpet(), 18, 0, 1, 2, 3);
        ordered(laid("s40,0,0;r1,1;k1,1;"), 5 + 4 + 3, 0, 1, 2, 3);
        due("kickFor(3, 2)", new StretchedCarpet().kickFor(3, 2), 0);
    }

    @Says("each with the least KICK (0 to 20)")
    private static void theHardestKickAndNone() {
        ordered(small("k2,8;"), 20 + 19 + 18, 0, 1, 2, 3);
        ordered(small("k2,9;"), NONE);
        StretchedCarpet x = hooked("");
        x.hook(1, 20);
        x.hook(2, 9);
        ordered(x, 0, 3);
    }

    @Says("by which it is TIGHT by 4 or more (by 2, where none is HOOKED) and does not TEAR")
    private static void justTightEnoughAndJustHeld() {
        ordered(small("h4;"), 5 + 4 + 3, 0, 1, 2, 3);
        ordered(small("h3;"), NONE);
        ordered(small("h2;"), NONE);
        ordered(small("h1;"), NONE);
        ordered(hooked("h3;"), NONE);
        StretchedCarpet last = small("h3;");
        last.hook(0, 0);
        last.hook(1, 20);
        last.hook(2, 20);
        last.letGo(0);
        ordered(last, NONE);
        last.hook(0, 0);
        last.hook(3, 20);
        last.letGo(0);
        ordered(last, 0, 0);
    }

    @Says("that by which all KICKS together are least, of several the first (by WALLS)")
    private static void theFirstOfTheLeastOrders() {
        StretchedCarpet old = small("k3,1;");
        old.hook(0, 0);
        old.hook(3, 20);
        old.letGo(0);
        ordered(old, 11, 0, 2, 1);
        StretchedCarpet x = covered();
        x.hook(3, 0);
        ordered(x, 18, 0, 1, 2);
    }

    @Says("none (in each there is one for which no KICK does)")
    private static void noOrder() {
        for (String none : new String[] {"h1;", "h3;", "k2,9;", "k3,9;h3;"}) {
            ordered(small(none), NONE);
        }
        ordered(hooked("k2,9;"), NONE);
        ordered(laid("s1,0,0;h3;"), NONE);
    }

    @Says("the least KICK by which it would be TIGHT by t or more and not TEAR; none.")
    private static void theLeastKick() {
        StretchedCarpet x = hooked("k1,3;h12;");
        for (int t = 0; t <= 30; t++) {
            due("kickFor(1, " + t + ")", x.kickFor(1, t), t == 0 ? 0 : t <= 12 ? t + 3 : NONE);
            due("kickFor(2, " + t + ")", x.kickFor(2, t), t == 0 ? 0 : t <= 12 ? t + 2 : NONE);
        }
        StretchedCarpet y = hooked("");
        due("kickFor(1, 19), by 20", y.kickFor(1, 19), 20);
        due("kickFor(1, 20), by 21", y.kickFor(1, 20), NONE);
        due("kickFor(3, 30)", highest("").kickFor(3, 30), 17);
        due("kickFor(3, 13)", highest("").kickFor(3, 13), 0);
        due("kickFor(3, 14)", highest("").kickFor(3, 14), 1);
    }

    @Says("KICK FOR a WALL and t (0 to 30), likewise")
    private static void theLeastKickForTheFirst() {
        int[] want = {0, 0, 0, NONE, NONE};
        for (int t = 0; t < want.length; t++) {
            due("kickFor(1, " + t + "), 2 hold", small("h2;").kickFor(1, t), want[t]);
            due("kickFor(1, " + t + "), 1 holds", small("h1;").kickFor(1, t), NONE);
        }
        due("kickFor(1, 30)", small("").kickFor(1, 30), NONE);
    }

    @Says("WAVES: behind how many MONTHS (0 to 60) it WAVES first anywhere; none.")
    private static void atOnceAndBehindSixty() {
        due("waves(), none HOOKED", small("").waves(), NONE);
        StretchedCarpet x = hooked("d3;");
        due("waves(), by 2", x.waves(), 1);
        x.hook(1, 2);
        due("waves(), by 1", x.waves(), 0);
        due("waves(), dry", hooked("d2;").waves(), NONE);
        // by 1 less in each twelfth month: behind 12, 24, 36, 48, 60 months, if it was month 0
        String twelfth = "d0;".repeat(11) + "d3;";
        due("waves(), behind 60", tightBy(6, twelfth).waves(), 60);
        due("waves(), behind 72", tightBy(7, twelfth).waves(), NONE);
        // behind 1, 13, 25, 37, 49, 61 months
        String first = "d3;" + "d0;".repeat(11);
        due("waves(), behind 61", tightBy(7, first).waves(), NONE);
        due("waves(), behind 49", tightBy(6, first).waves(), 49);
        StretchedCarpet y = tightBy(7, first);
        y.pass(1);
        due("waves(), behind 60 from now on", y.waves(), 60);
    }

    @Says("LONGEST: the WALL that WAVES last, of several the lowest")
    private static void theLowestOfSeveral() {
        StretchedCarpet x = small("");
        x.hook(3, 0);
        x.hook(2, 11);
        x.hook(0, 6);
        tight(x, 10, 0, 10, 2);
        due("longest(), 0 and 2 alike", x.longest(), 0);
        x.letGo(0);
        due("longest()", x.longest(), 2);
        x.pass(60);
        due("longest(), all WAVE", x.longest(), 2);
        x.hook(1, 1);
        tight(x, 0, 0, 0, 0);
        due("longest(), all WAVE at once", x.longest(), 1);
    }

    @Says("(of HOOKED ones; never in 60 MONTHS counts most)")
    private static void neverCountsMost() {
        // by 1 less in each twelfth month: 6 WAVES behind 60 months, 7 behind 72, 8 behind 84
        String twelfth = "d0;".repeat(11) + "d3;";
        StretchedCarpet x = small(twelfth);
        x.hook(2, 0);
        x.hook(1, 8);
        x.hook(3, 6);
        x.letGo(2);
        x.hook(0, 7);
        tight(x, 6, 7, 0, 8);
        due("longest(), 60 and two never", x.longest(), 1);
        x.letGo(1);
        due("longest(), 60 and never", x.longest(), 3);
        x.letGo(3);
        due("longest(), 60", x.longest(), 0);
        StretchedCarpet dry = small("d0;");
        dry.hook(3, 0);
        dry.hook(1, 0);
        due("longest(), at once and never", dry.longest(), 3);
    }

    @Says("none (none HOOKED)")
    private static void noneLongest() {
        due("longest(), no length", new StretchedCarpet().longest(), NONE);
        due("longest(), none", small("").longest(), NONE);
        StretchedCarpet x = small("h1;");
        x.hook(0, 0);
        due("longest(), torn", x.longest(), NONE);
        StretchedCarpet y = hooked("");
        y.letGo(0);
        due("longest(), let go", y.longest(), NONE);
    }

    // ---- 4 what was seen

    @Says("SEEN (6 at most)")
    private static void sixAndNotSeven() {
        StretchedCarpet x = new StretchedCarpet();
        for (int i = 1; i <= 6; i++) {
            due("seen(6, 4)", x.seen(6, 4), i);
        }
        due("seen(6, 5), the seventh", x.seen(6, 5), FULL);
        due("count(7)", x.count(7), 6);
        due("may(0)", x.may(0), 2);
        x.forget();
        for (int i = 1; i <= 5; i++) {
            x.seen(6, 4);
        }
        due("seen(6, 5), the sixth", x.seen(6, 5), 6);
        due("may(0), the sixth, too", x.may(0), 0);
    }

    @Says("TIGHT by v (0 to 40)")
    private static void seenByEachTightness() {
        told("seen(9, v)", 0, 40, v -> new StretchedCarpet().seen(9, v));
        StretchedCarpet x = new StretchedCarpet();
        x.seen(20, 40);
        due("may(0), by 40", x.may(0), 0);
    }

    @Says("nothing else being HOOKED but the first one opposite, which was TIGHT by 2")
    private static void halfOfTwoAndOneHooked() {
        mayBe("k0,1;", 9, 10, 1, 1 << 1);
        mayBe("k1,1;", 9, 9, 2, 1 << 1);
        mayBe("k2,1;", 9, 8, 4 | 8, 1 << 1);
        mayBe("k3,1;", 9, 8, 4 | 8, 1 << 1);
        mayBe("k3,9;", 20, 11, 8, 1 << 9);
        mayBe("k2,9;", 20, 3, 4, 1 << 9);
    }

    private static void mayBe(String stuff, int f, int v, int kinds, int gives) {
        StretchedCarpet x = laid("s1,0,0;h30;" + stuff);
        x.seen(f, v);
        due("may(0), " + stuff + " " + f + ", " + v, x.may(0), kinds);
        due("may(1), " + stuff + " " + f + ", " + v, x.may(1), gives);
    }

    @Says("(no matter whether it would TEAR)")
    private static void tighterThanTheHooksHold() {
        StretchedCarpet x = laid("s1,0,0;h1;k1,3;");
        x.seen(20, 18);
        due("may(0)", x.may(0), 2);
        due("may(1)", x.may(1), 1 << 3);
        x.seen(20, 0);
        due("may(0)", x.may(0), 0);
    }

    @Says("by which with its G all that was SEEN is so")
    private static void allThatWasSeen() {
        StretchedCarpet x = laid("s1,0,0;k1,3;");
        due("may(0), nothing SEEN", x.may(0), 15);
        x.seen(2, 0);
        due("may(0), slack", x.may(0), 2 | 4 | 8);
        x.seen(3, 0);
        due("may(0), slack", x.may(0), 4 | 8);
        x.seen(4, 1);
        due("may(0)", x.may(0), 8);
        x.seen(4, 2);
        due("may(0), not all", x.may(0), 0);
    }

    @Says("GIVES: G (bits of 1 to 9) by which with its KIND")
    private static void givesByBits() {
        due("may(1), nothing SEEN", laid("s1,0,0;").may(1), 1022);
        int[] wants = {1 << 1, 1 << 2 | 1 << 3, 1 << 4 | 1 << 5, 1 << 6 | 1 << 7, 1 << 8 | 1 << 9, 0};
        for (int half = 0; half < wants.length; half++) {
            StretchedCarpet jute = laid("s1,0,0;k0,5;");
            jute.seen(9, 10 - half);
            due("may(1), JUTE by " + half, jute.may(1), wants[half]);
        }
        for (int g = 0; g <= 10; g++) {
            StretchedCarpet wool = laid("s1,0,0;k1,5;");
            wool.seen(19, 20 - g);
            due("may(1), WOOL by " + g, wool.may(1), g >= 1 && g <= 9 ? 1 << g : 0);
        }
        StretchedCarpet slack = laid("s1,0,0;k1,5;");
        slack.seen(0, 0);
        due("may(1), slack", slack.may(1), 1022);
        slack.seen(8, 0);
        due("may(1), slack by 8", slack.may(1), 1 << 9);
    }

    // ---- what is left

    @Says("HALL of w STRIPS (1 to 6) and n (1 to 40) long")
    private static void theLeastAndTheGreatestHall() {
        StretchedCarpet x = laid("s40,0,0;s40,0,0;r6,99;o0;");
        due("hall(1, 1)", x.hall(1, 1), 2);
        due("hall(6, 40)", x.hall(6, 40), 2);
        x.cut(1);
        due("hall(1, 1)", x.hall(1, 1), 1);
        due("hall(5, 40)", x.hall(5, 40), 1);
        due("hall(6, 40)", x.hall(6, 40), 2);
    }

    @Says("whether it can be cut out of one REST (1), else out of what is left of the ROLL (2), else 0")
    private static void justOutOfARestAndOutOfTheRoll() {
        StretchedCarpet x = withCuts(laid("s2,0,0;s4,0,0;s9,0,0;r4,30;o1;"), 1, 2);
        due("hall(3, 3), the first", x.hall(3, 3), 1);
        due("hall(2, 10), the second", x.hall(2, 10), 1);
        due("hall(3, 4), longer than the first", x.hall(3, 4), 2);
        due("hall(2, 11), longer than the second", x.hall(2, 11), 2);
        due("hall(3, 10), not of both", x.hall(3, 10), 2);
        due("hall(4, 17), all of the ROLL", x.hall(4, 17), 2);
        due("hall(4, 18), longer than the ROLL", x.hall(4, 18), 0);
        due("hall(5, 1), broader than the ROLL", x.hall(5, 1), 0);
        StretchedCarpet y = withCuts(laid("s2,0,0;s2,0,0;r4,4;o0;"), 1, 1);
        due("count(2)", y.count(2), 0);
        due("hall(3, 2)", y.hall(3, 2), 1);
        due("hall(3, 3), not of two", y.hall(3, 3), 0);
        due("hall(4, 2), not of two", y.hall(4, 2), 0);
    }

    @Says("LEFT OVER: the area of all RESTS together, and of what is left of the ROLL")
    private static void nothingLeftOver() {
        StretchedCarpet x = laid("s5,0,0;s5,0,0;s5,0,0;r2,12;o1;");
        due("left(0), nothing cut", x.left(0), 0);
        due("left(1), nothing cut", x.left(1), 24);
        x.cut(2);
        due("left(0), no REST", x.left(0), 0);
        x.cut(1);
        due("left(0)", x.left(0), 6);
        due("left(1), none", x.left(1), 0);
        StretchedCarpet most = laid("s1,0,0;".repeat(11) + "s40,0,0;r6,99;o0;");
        due("left(1), the most", most.left(1), 594);
        for (int i = 0; i < 12; i++) {
            most.cut(1);
        }
        due("left(0), twelve RESTS", most.left(0), 5 * 51);
        due("left(1)", most.left(1), 6 * 48);
    }

    @Says("LIKELY for a HOOKED WALL and n (0 to 6) MONTHS")
    private static void likelyInNoMonthAndInSix() {
        StretchedCarpet x = tightBy(13, "");
        isLikely(x, 1, 0, 5, 0, 1);
        isLikely(x, 1, 6, 5, 1, 64);
        isLikely(x, 1, 6, 3, 729, 1000000);
        isLikely(x, 1, 5, 10, 0, 1);
        isLikely(x, 1, 6, 10, 1, 1);
        isLikely(tightBy(14, ""), 1, 6, 10, 0, 1);
        StretchedCarpet slack = tightBy(1, "");
        isLikely(slack, 1, 0, 5, 1, 1);
        isLikely(slack, 1, 6, 7, 1, 1);
    }

    @Says("each is by x (0 to 10) of ten so damp that it is 2 less TIGHT, else not less")
    private static void likelyNeverAndAlways() {
        StretchedCarpet x = tightBy(3, "");
        isLikely(x, 1, 1, 0, 0, 1);
        isLikely(x, 1, 1, 1, 1, 10);
        isLikely(x, 1, 1, 9, 9, 10);
        isLikely(x, 1, 1, 10, 1, 1);
        isLikely(x, 1, 6, 0, 0, 1);
        isLikely(x, 1, 6, 10, 1, 1);
        isLikely(tightBy(4, ""), 1, 1, 10, 0, 1);
        isLikely(tightBy(2, ""), 1, 1, 10, 1, 1);
        isLikely(tightBy(1, ""), 1, 6, 0, 1, 1);
    }

    @Says("how likely it WAVES there behind them, in lowest terms")
    private static void lowestTerms() {
        StretchedCarpet x = tightBy(2, "");
        isLikely(x, 1, 1, 2, 1, 5);
        isLikely(x, 1, 1, 5, 1, 2);
        isLikely(x, 1, 1, 3, 3, 10);
        isLikely(x, 1, 2, 3, 51, 100);
        isLikely(x, 1, 6, 1, 468559, 1000000);
        isLikely(x, 1, 6, 5, 63, 64);
        isLikely(tightBy(4, ""), 1, 3, 4, 44, 125);
        isLikely(tightBy(4, ""), 1, 3, 0, 0, 1);
    }

    @Says("A YEAR by z (0 to 9999) of n (1 to 40) steps from now on")
    private static void theShortestAndTheLongestYear() {
        StretchedCarpet x = covered();
        isYear(x, 0, 1, 0, 1);
        isYear(x, 0, 2, 0, 6);
        isYear(x, 0, 40, 0, 8);
        isYear(x, 5, 39, 0, 8);
        isYear(x, 5, 40, 0, 14);
        isYear(x, 7, 39, 0, 14);
        isYear(x, 7, 40, 0, 10);
        isYear(x, 9999, 1, 0, 2);
        isYear(x, 9999, 38, 1, 9);
        isYear(x, 9999, 40, 1, 7);
    }

    @Says("(nothing changes by it)")
    private static void nothingChangesByAYear() {
        StretchedCarpet x = full();
        for (int z = 0; z < 40; z++) {
            x.year(z, 40, z % 2);
        }
        due("stand", standThrough(x), standThrough(full()));
    }

    @Says("is LET GO, if it is HOOKED and (DRAW by 4, cut) modulo 5 is 0")
    private static void letGoInAYear() {
        // the first DRAW by 0 is 0: WALL 0, which is let go, and a MONTH
        StretchedCarpet x = covered();
        x.hook(0, 9);
        isYear(x, 0, 1, 0, 0);
        // the first DRAW by 2 is 29766: WALL 2, by 4 and modulo 5 it is 1, no MONTH
        StretchedCarpet y = covered();
        y.hook(0, 9);
        y.hook(2, 9);
        isYear(y, 2, 1, 0, 2 + 7);
    }

    @Says("or HOOKED with a KICK of (DRAW by 32, cut) modulo 16, if it can be")
    private static void tornOnesStayInAYear() {
        StretchedCarpet x = small("h1;");
        isYear(x, 0, 1, 1, 0);
        x.hook(0, 0);
        isYear(x, 0, 1, 1, 0);
        isYear(x, 0, 2, 2, 0);
        for (int w = 1; w < 4; w++) {
            x.hook(w, 0);
        }
        isYear(x, 9999, 40, 4, 0);
    }

    @Says("then a MONTH goes by, if (DRAW by 512, cut) modulo 3 is 0")
    private static void monthsOfAYear() {
        // the first DRAW is by 0: 0, by 2: 29766, by 6: 9064, by 512 and modulo 3: 0, 1, 2
        StretchedCarpet x = small("d9;");
        isYear(x, 0, 1, 0, 0);
        isYear(x, 2, 1, 0, 2);
        isYear(x, 6, 1, 0, 2);
        StretchedCarpet y = small("d0;d3;");
        isYear(y, 0, 1, 0, 2);
        y.pass(1);
        isYear(y, 0, 1, 0, 1);
    }

    @Says("DRAW being ((x times x) modulo 65521) by 2, cut")
    private static void drawsOfGreatNumbers() {
        // JUTE that gives nothing, no damp: how TIGHT all are tells the WALL and the KICK of the first DRAW
        StretchedCarpet x = hooked("k0,1;d0;");
        for (int z = 0; z < 10000; z += z < 9900 ? 50 : 1) {
            BigInteger number = BigInteger.valueOf(7919L * z + 1);
            int draw = number.multiply(number).mod(BigInteger.valueOf(65521)).intValue() / 2;
            int stays = draw / 4 % 5 == 0 ? 0 : 2;
            int kicked = draw / 32 % 16 + (draw % 4 == 2 ? 1 : 0);
            due("year(" + z + ", 1, 1)", x.year(z, 1, 1), draw % 4 == 0 ? stays : 2 + kicked);
        }
    }

    @Says("x 7919 z, 6151 (the step, 0 first) and 1 together")
    private static void drawsOfTheFirstSteps() {
        // x is 1, 6152, 12303: DRAW is 0 (WALL 0 by 0), 20743 (WALL 3 by 8), 5149 (WALL 1 by 0, and half of 8)
        StretchedCarpet x = small("k0,1;d0;");
        isYear(x, 0, 1, 0, 2);
        isYear(x, 0, 2, 0, 2 + 8);
        isYear(x, 0, 3, 0, 2 + 8 + 4);
    }

    @Says("how many are torn then; how TIGHT all are together")
    private static void tornBeforeAndWithin() {
        StretchedCarpet x = hooked("h12;");
        isYear(x, 2, 1, 0, 2 + 2);
        x.hook(1, 20);
        isYear(x, 2, 1, 1, 2 + 2);
        x.hook(2, 20);
        isYear(x, 2, 1, 2, 2);
    }

    // ---- kept

    @Says("KEPT is all as it stands, but THE TEXT and what is SEEN")
    private static void whatIsNotKept() {
        StretchedCarpet x = full();
        StretchedCarpet same = full();
        for (StretchedCarpet each : new StretchedCarpet[] {x, same}) {
            each.back();
            each.pass(1);
            each.keep();
        }
        x.letGo(0);
        x.hook(2, 0);
        x.pass(9);
        x.wipe();
        type(x, "d1;d2;x");
        x.forget();
        x.seen(2, 0);
        due("back()", x.back(), 1);
        counts(x, 7, 3, 12, 2, 2, 1, 3, 1, 0, 1, 7);
        due("fault(), of THE TEXT as it is", x.fault(), 6);
        due("may(0), by what is SEEN now", x.may(0), 2 | 4 | 8);
        same.back();
        for (StretchedCarpet each : new StretchedCarpet[] {x, same}) {
            each.wipe();
            each.forget();
        }
        due("stand, but THE TEXT and what is SEEN", stand(x), stand(same));
    }

    @Says("KEPT is all as it stands, but THE TEXT and what is SEEN")
    private static void otherLengthsThanThoseKept() {
        StretchedCarpet x = new StretchedCarpet();
        x.cut(3);
        x.keep();
        x.undo();
        withCuts(x, 1, 1);
        due("back()", x.back(), 0);
        int[] lengths = {0, 0, 0, NONE};
        for (int s = 0; s < 4; s++) {
            due("strip(" + s + ", 3)", x.strip(s, 3), lengths[s]);
            due("strip(" + s + ", 4)", x.strip(s, 4), 0);
        }
        counts(x, 7, 1, 36, 0);
        due("left(0)", x.left(0), 0);
        due("cut(1)", x.cut(1), 11);
    }

    @Says("2 at most")
    private static void twoAndNotThree() {
        StretchedCarpet x = new StretchedCarpet();
        due("keep()", x.keep(), 1);
        x.pass(5);
        due("keep()", x.keep(), 2);
        x.pass(9);
        due("keep(), the third", x.keep(), FULL);
        due("count(9)", x.count(9), 2);
        due("back(), the second", x.back(), 1);
        due("count(6)", x.count(6), 5);
        due("keep()", x.keep(), 2);
        due("keep()", x.keep(), FULL);
        x.back();
        due("back(), the first", x.back(), 0);
        due("count(6)", x.count(6), 0);
        due("back(), none", x.back(), NO);
    }

    // ---- refused calls

    @Says("BAD: a number is none that is told (STRIPS, WALLS: such as there are).")
    private static void suchStripsAndWallsAsThereAre() {
        for (int strips = 1; strips <= 12; strips++) {
            StretchedCarpet x = laid("s5,1,2;".repeat(strips));
            told("strip(s, 0)", 0, strips - 1, s -> x.strip(s, 0));
        }
        StretchedCarpet x = covered();
        told("wall(w, 0)", 0, 3, w -> x.wall(w, 0));
    }

    @Says("Of several the first in this order, whatever the order at a call")
    private static void badGoesFirst() {
        StretchedCarpet bare = new StretchedCarpet();
        due("hook(4, 0), no length", bare.hook(4, 0), BAD);
        due("hook(0, 21), no length", bare.hook(0, 21), BAD);
        due("letGo(-1)", bare.letGo(-1), BAD);
        due("year(10000, 1, 0), no length", bare.year(10000, 1, 0), BAD);
        due("year(0, 41, 0), no length", bare.year(0, 41, 0), BAD);
        due("year(0, 1, 2), no length", bare.year(0, 1, 2), BAD);
        due("likely(4, 0, 0, 0)", bare.likely(4, 0, 0, 0), BAD);
        due("likely(0, 7, 0, 0), not HOOKED", bare.likely(0, 7, 0, 0), BAD);
        due("likely(0, 0, 11, 0), not HOOKED", bare.likely(0, 0, 11, 0), BAD);
        due("likely(0, 0, 0, 2), not HOOKED", bare.likely(0, 0, 0, 2), BAD);
        StretchedCarpet x = hooked("h12;");
        x.hook(1, 20);
        due("cut(7), none left", x.cut(7), BAD);
        due("cut(0), none left", x.cut(0), BAD);
        due("hook(0, 21), HOOKED", x.hook(0, 21), BAD);
        due("hook(1, -1), torn", x.hook(1, -1), BAD);
        due("kickFor(0, 31), HOOKED", x.kickFor(0, 31), BAD);
        due("kickFor(1, -1), torn", x.kickFor(1, -1), BAD);
        passedTo(x, 999);
        due("pass(0), at 999", x.pass(0), BAD);
        due("pass(61), at 999", x.pass(61), BAD);
    }

    @Says("Of several the first in this order, whatever the order at a call")
    private static void badGoesAheadOfNoneAndFull() {
        StretchedCarpet none = laid("s40,0,0;r1,1;h1;");
        due("plan(-1)", none.plan(-1), NONE);
        due("plan(-3), none", none.plan(-3), BAD);
        due("order(-1)", none.order(-1), NONE);
        due("order(-2), none", none.order(-2), BAD);
        due("order(4), none", none.order(4), BAD);
        StretchedCarpet full = typed("o1;".repeat(66) + "o1");
        due("write(127), full", full.write(127), BAD);
        due("write(31), full", full.write(31), BAD);
        due("write(32), full", full.write(32), FULL);
        for (int i = 0; i < 6; i++) {
            full.seen(0, 0);
        }
        due("seen(21, 0), full", full.seen(21, 0), BAD);
        due("seen(0, 41), full", full.seen(0, 41), BAD);
        due("seen(0, 0), full", full.seen(0, 0), FULL);
    }

    @Says("nothing changes then")
    private static void nothingChangesByWhatIsBad() {
        changesNothing("write(127)", BAD, x -> x.write(127));
        changesNothing("strip(7, 0)", BAD, x -> x.strip(7, 0));
        changesNothing("wall(4, 0)", BAD, x -> x.wall(4, 0));
        changesNothing("damp(1000)", BAD, x -> x.damp(1000));
        changesNothing("cut(7)", BAD, x -> x.cut(7));
        changesNothing("hook(4, 0)", BAD, x -> x.hook(4, 0));
        changesNothing("hook(2, 21)", BAD, x -> x.hook(2, 21));
        changesNothing("letGo(4)", BAD, x -> x.letGo(4));
        changesNothing("pass(61)", BAD, x -> x.pass(61));
        changesNothing("plan(-3)", BAD, x -> x.plan(-3));
        changesNothing("order(4)", BAD, x -> x.order(4));
        changesNothing("kickFor(2, 31)", BAD, x -> x.kickFor(2, 31));
        changesNothing("seen(0, 41)", BAD, x -> x.seen(0, 41));
        changesNothing("may(2)", BAD, x -> x.may(2));
        changesNothing("hall(7, 1)", BAD, x -> x.hall(7, 1));
        changesNothing("left(2)", BAD, x -> x.left(2));
        changesNothing("likely(0, 7, 0, 0)", BAD, x -> x.likely(0, 7, 0, 0));
        changesNothing("year(0, 41, 0)", BAD, x -> x.year(0, 41, 0));
        changesNothing("count(11)", BAD, x -> x.count(11));
    }

    @Says("nothing changes then")
    private static void nothingChangesByAnyOtherRefusal() {
        changesNothing("lay()", NO, x -> x.lay());
        changesNothing("cut(1)", NO, x -> x.cut(1));
        changesNothing("hook(0, 9), HOOKED", NO, x -> x.hook(0, 9));
        changesNothing("hook(1, 9), torn", NO, x -> x.hook(1, 9));
        changesNothing("letGo(1)", NO, x -> x.letGo(1));
        changesNothing("likely(2, 0, 0, 0)", NO, x -> x.likely(2, 0, 0, 0));
        changesNothing("keep()", FULL, x -> x.keep());
        changesNothing("seen(0, 0)", FULL, x -> x.seen(0, 0));
        changesNothing("plan(0)", NONE, x -> x.plan(0));
        changesNothing("order(3)", NONE, x -> x.order(3));
        changesNothing("kickFor(0, 0)", NONE, x -> x.kickFor(0, 0));
        changesNothing("pass(60), to 1000", NO, () -> passedTo(full(), 940), x -> x.pass(60));
    }

    @Says("nothing changes then")
    private static void nothingChangesByARefusalAheadOfAllLengths() {
        Supplier<StretchedCarpet> some = () -> withCuts(new StretchedCarpet(), 3, 3);
        changesNothing("hook(0, 0), one without", NO, some, x -> x.hook(0, 0));
        changesNothing("year(0, 40, 0), one without", NO, some, x -> x.year(0, 40, 0));
        changesNothing("cut(2), of one", NO, some, x -> x.cut(2));
        changesNothing("waves()", NONE, some, StretchedCarpet::waves);
        changesNothing("longest()", NONE, some, StretchedCarpet::longest);
        changesNothing("back()", NO, some, StretchedCarpet::back);
        Supplier<StretchedCarpet> bare = StretchedCarpet::new;
        changesNothing("cut(4), broader", NO, bare, x -> x.cut(4));
        changesNothing("undo()", NO, bare, StretchedCarpet::undo);
        changesNothing("lay(), empty", NO, bare, StretchedCarpet::lay);
        Supplier<StretchedCarpet> none = () -> laid("s40,9,9;s40,9,9;r2,41;h1;");
        changesNothing("cut(2), longer", NO, none, x -> x.cut(2));
        changesNothing("plan(-1)", NONE, none, x -> x.plan(-1));
        changesNothing("order(-1)", NONE, none, x -> x.order(-1));
        changesNothing("kickFor(0, 0)", NONE, none, x -> x.kickFor(0, 0));
    }

    // ---- the promises

    @Says(promise = 1, value = "As told; THE TEXT is empty.")
    private static void aNewOne() {
        StretchedCarpet x = new StretchedCarpet();
        counts(x, 7, 0, 50, 0, 0, 0, 0, 0, 0, 0, 0);
        due("wipe()", x.wipe(), 0);
        due("fault()", x.fault(), NONE);
        due("lay()", x.lay(), NO);
        due("undo()", x.undo(), NO);
        due("back()", x.back(), NO);
        due("forget()", x.forget(), 0);
    }

    @Says(promise = 1, value = "As told; THE TEXT is empty.")
    private static void oneDoesNotTouchAnother() {
        StretchedCarpet x = new StretchedCarpet();
        String before = stand(x);
        full();
        laid("s1,0,0;r1,1;").cut(1);
        due("stand", stand(x), before);
    }

    @Says(promise = 2, value = "A letter (32 to 126, as in ASCII)")
    private static void lettersOfAscii() {
        told("write(letter)", 32, 126, letter -> new StretchedCarpet().write(letter));
        StretchedCarpet x = typed("s1,0,0;");
        due("write('s' + 65536)", x.write('s' + 65536), BAD);
        due("count(10)", x.count(10), 7);
    }

    @Says(promise = 2, value = "comes behind THE TEXT: how long it is.")
    private static void howLongTheTextIs() {
        StretchedCarpet x = new StretchedCarpet();
        for (int i = 1; i <= 200; i++) {
            due("write", x.write(i < 200 ? 'd' : 32), i);
        }
    }

    @Says(promise = 2, value = "BAD; FULL.")
    private static void noLetterMore() {
        StretchedCarpet x = typed("s9,1,2;".repeat(12) + "o1;".repeat(38) + "o0");
        String before = stand(x);
        due("write(';'), 200 are written", x.write(';'), FULL);
        due("stand", stand(x), before);
        due("count(10)", x.count(10), 200);
        due("fault()", x.fault(), 198);
        due("wipe()", x.wipe(), 200);
        due("write('d'), not full", x.write('d'), 1);
    }

    @Says(promise = 3, value = "THE TEXT is empty: how long it was.")
    private static void wipedOfEachLength() {
        StretchedCarpet x = new StretchedCarpet();
        due("wipe(), empty", x.wipe(), 0);
        x.write('x');
        due("wipe(), one", x.wipe(), 1);
        due("wipe(), again", x.wipe(), 0);
        type(x, "s1,2,3;o9;");
        due("fault()", x.fault(), 7);
        due("wipe()", x.wipe(), 10);
        type(x, "s1,2,3;");
        due("fault(), nothing of the old behind", x.fault(), NONE);
        due("lay()", x.lay(), 1);
    }

    @Says(promise = 4, value = "FAULT. NONE.")
    private static void noFault() {
        StretchedCarpet x = new StretchedCarpet();
        due("fault(), empty", x.fault(), NONE);
        type(x, "d4");
        due("fault(), without its ;", x.fault(), 0);
        x.write(';');
        due("fault()", x.fault(), NONE);
        x.write(' ');
        due("fault(), behind it", x.fault(), 3);
        x.wipe();
        due("fault(), wiped", x.fault(), NONE);
    }

    @Says(promise = 4, value = "FAULT. NONE.")
    private static void aFaultLeavesTheRoom() {
        StretchedCarpet x = full();
        due("fault()", x.fault(), 7);
        x.fault();
        due("stand", standThrough(x), standThrough(full()));
    }

    @Says(promise = 5, value = "nothing cut, HOOKED, SEEN, UNDONE, KEPT, month 0 (THE TEXT stays).")
    private static void laidAfresh() {
        StretchedCarpet x = full();
        x.letGo(3);
        x.letGo(0);
        x.hook(0, 0);
        x.hook(2, 9);
        x.hook(3, 9);
        tight(x, 2, 0, 7, 6);
        x.wipe();
        type(x, "s5,1,1;s6,0,0;r2,40;");
        due("lay()", x.lay(), 2);
        counts(x, 2, 0, 40, 0, 0, 0, 0, 0, 0, 0, 20);
        for (int w = 0; w < 4; w++) {
            isWall(x, w, 0, 0, 0, 0);
        }
        due("strip(0, 3)", x.strip(0, 3), NONE);
        due("left(0)", x.left(0), 0);
        due("may(0)", x.may(0), 15);
        due("undo()", x.undo(), NO);
        due("back()", x.back(), NO);
        due("hook(0, 0), no length", x.hook(0, 0), NO);
        planned(x, 8, 0, 2);
        due("cut(2)", x.cut(2), 8);
        due("lay(), the TEXT stays", x.lay(), 2);
        due("count(10)", x.count(10), 20);
    }

    @Says(promise = 5, value = "LAID: how many STRIPS")
    private static void nothingOfAnEarlierTextCounts() {
        StretchedCarpet x = laid("s1,0,0;r6,9;o5;h30;k3,9;d9;");
        due("lay(), again", x.lay(), 1);
        x.wipe();
        type(x, "s8,0,0;");
        for (int i = 0; i < 3; i++) {
            due("lay(), without", x.lay(), 1);
            due("left(1)", x.left(1), 180);
            due("damp(0)", x.damp(0), 4);
            due("cut(1)", x.cut(1), 10);
            x.hook(0, 0);
            due("kickFor(1, 12)", x.kickFor(1, 12), 13);
            due("kickFor(1, 13)", x.kickFor(1, 13), NONE);
            x.seen(6, 4);
            due("may(0)", x.may(0), 2);
            x.forget();
            x.seen(6, 6);
            due("may(1)", x.may(1), 1 << 2 | 1 << 3);
        }
    }

    @Says(promise = 5, value = "NO.")
    private static void notLaid() {
        StretchedCarpet x = full();
        due("lay(), a FAULT", x.lay(), NO);
        due("stand", standThrough(x), standThrough(full()));
        StretchedCarpet y = covered();
        due("lay(), empty", y.lay(), NO);
        type(y, "r1,1;d9;");
        due("lay(), no STRIP", y.lay(), NO);
        y.wipe();
        due("stand", standThrough(y), standThrough(covered()));
    }

    @Says(promise = 6, value = "L (what = 0), LIGHT (1), TREAD (2)")
    private static void ofAStrip() {
        StretchedCarpet x = covered();
        int[] first = {11, 3, 2};
        int[] last = {11, 4, 4};
        for (int what = 0; what < 3; what++) {
            due("strip(0, " + what + ")", x.strip(0, what), first[what]);
            due("strip(6, " + what + ")", x.strip(6, what), last[what]);
        }
    }

    @Says(promise = 6, value = "which LENGTH it has (3, 0 first; NONE)")
    private static void theLengthOfAStrip() {
        StretchedCarpet x = new StretchedCarpet();
        due("strip(0, 3), nothing cut", x.strip(0, 3), NONE);
        x.cut(3);
        due("strip(0, 3)", x.strip(0, 3), 0);
        due("strip(2, 3)", x.strip(2, 3), 0);
        due("strip(3, 3), none", x.strip(3, 3), NONE);
        withCuts(x, 1, 3);
        due("strip(3, 3)", x.strip(3, 3), 1);
        due("strip(6, 3)", x.strip(6, 3), 2);
        StretchedCarpet y = laid("s1,0,0;".repeat(12));
        for (int s = 0; s < 12; s++) {
            y.cut(1);
            due("strip(" + s + ", 3)", y.strip(s, 3), s);
        }
    }

    @Says(promise = 6, value = "1 if a SEAM is at its right edge (4)")
    private static void theSeamOfAStrip() {
        StretchedCarpet x = new StretchedCarpet();
        x.cut(3);
        due("strip(2, 4), none begins", x.strip(2, 4), 0);
        withCuts(x, 1, 3);
        int[] want = {0, 0, 1, 1, 0, 0, 0};
        for (int s = 0; s < 7; s++) {
            due("strip(" + s + ", 4)", x.strip(s, 4), want[s]);
        }
        x.undo();
        due("strip(3, 4), undone", x.strip(3, 4), 0);
    }

    @Says(promise = 6, value = "BAD.")
    private static void stripOfNoSuchNumber() {
        StretchedCarpet x = covered();
        told("strip(0, what)", 0, 4, what -> x.strip(0, what));
        told("strip(s, 4)", 0, 6, s -> x.strip(s, 4));
        due("strip(7, 5)", x.strip(7, 5), BAD);
        StretchedCarpet one = small("");
        told("strip(s, 3) of one", 0, 0, s -> one.strip(s, 3));
    }

    @Says(promise = 7, value = "how TIGHT (what = 0), 1 if it is HOOKED (1), torn (2), WAVES (3). BAD.")
    private static void ofAWall() {
        StretchedCarpet x = covered();
        for (int i = 0; i <= 3; i++) {
            int one = i;
            told("wall(w, " + one + ")", 0, 3, w -> x.wall(w, one));
            told("wall(" + one + ", what)", 0, 3, what -> x.wall(one, what));
        }
        for (int w = 0; w < 4; w++) {
            isWall(x, w, 0, 0, 0, 0);
        }
    }

    @Says(promise = 8, value = "BAD.")
    private static void dampOfNoSuchMonth() {
        told("damp(m)", 0, 999, new StretchedCarpet()::damp);
        told("damp(m), none told", 0, 999, small("")::damp);
    }

    @Says(promise = 8, value = "The DAMP of a month (0 to 999).")
    private static void theLastMonthHasADamp() {
        StretchedCarpet x = covered();
        due("damp(0)", x.damp(0), 3);
        due("damp(999)", x.damp(999), 2);
    }

    @Says(promise = 9, value = "BAD (b: 1 to 6)")
    private static void breadths() {
        told("cut(b)", 1, 6, b -> laid("s1,0,0;".repeat(6) + "r6,9;").cut(b));
        due("cut(6), broader, not BAD", new StretchedCarpet().cut(6), NO);
    }

    @Says(promise = 9, value = "NO: broader than the ROLL")
    private static void broaderThanTheRoll() {
        StretchedCarpet x = laid("s5,0,0;".repeat(6) + "r2,60;");
        due("cut(3)", x.cut(3), NO);
        due("cut(2)", x.cut(2), 7);
    }

    @Says(promise = 9, value = "fewer STRIPS are left")
    private static void fewerStripsAreLeft() {
        StretchedCarpet x = laid("s5,0,0;".repeat(3) + "r6,60;");
        due("cut(4), of 3", x.cut(4), NO);
        x.cut(1);
        due("cut(3), of 2", x.cut(3), NO);
        due("cut(2), of 2", x.cut(2), 7);
        due("cut(1), of none", x.cut(1), NO);
        due("count(1)", x.count(1), 2);
    }

    @Says(promise = 9, value = "the ROLL does not do")
    private static void theRollDoesNotDo() {
        due("cut(1), just", laid("s5,0,0;r1,7;").cut(1), 7);
        due("cut(1), 1 too short", laid("s5,0,0;r1,6;").cut(1), NO);
        StretchedCarpet x = withCuts(laid("s5,0,0;s6,0,0;r1,14;"), 1);
        due("cut(1), 1 too short", x.cut(1), NO);
        due("count(2)", x.count(2), 7);
    }

    @Says(promise = 10, value = "how TIGHT it is (0: torn, or so slack)")
    private static void tornOrSoSlack() {
        StretchedCarpet x = hooked("h12;");
        due("hook(1, 0), slack", x.hook(1, 0), 0);
        due("hook(2, 20), torn", x.hook(2, 20), 0);
        due("hook(3, 13)", x.hook(3, 13), 12);
        isWall(x, 1, 0, 1, 0, 1);
        isWall(x, 2, 0, 0, 1, 0);
    }

    @Says(promise = 10, value = "BAD (f: 0 to 20)")
    private static void kicks() {
        told("hook(1, f)", 0, 20, f -> covered().hook(1, f));
        told("hook(w, 0)", 0, 3, w -> covered().hook(w, 0));
    }

    @Says(promise = 10, value = "NO: not all STRIPS have one")
    private static void notHookedAheadOfTheLengths() {
        StretchedCarpet x = withCuts(new StretchedCarpet(), 3, 3);
        due("hook(0, 0)", x.hook(0, 0), NO);
        x.cut(1);
        x.undo();
        due("hook(0, 0), undone", x.hook(0, 0), NO);
        x.cut(1);
        due("hook(0, 0)", x.hook(0, 0), 2);
    }

    @Says(promise = 10, value = "it is HOOKED, torn")
    private static void notHookedTwice() {
        StretchedCarpet x = hooked("h12;");
        due("hook(0, 0), HOOKED", x.hook(0, 0), NO);
        x.hook(1, 0);
        due("hook(1, 9), HOOKED, but slack", x.hook(1, 9), NO);
        x.hook(2, 20);
        due("hook(2, 0), torn", x.hook(2, 0), NO);
        x.undo();
        due("hook(2, 5), not torn any more", x.hook(2, 5), 5);
    }

    @Says(promise = 11, value = "how TIGHT it was. BAD; NO: not HOOKED.")
    private static void letGoOfWhatIsHooked() {
        told("letGo(w)", 0, 3, w -> hooked("").letGo(w));
        StretchedCarpet x = hooked("h12;");
        due("letGo(1), not HOOKED", x.letGo(1), NO);
        due("letGo(0)", x.letGo(0), 2);
        due("letGo(0), again", x.letGo(0), NO);
        x.hook(0, 0);
        x.hook(1, 0);
        due("letGo(1), slack", x.letGo(1), 0);
        x.hook(1, 20);
        due("letGo(1), torn", x.letGo(1), NO);
        due("letGo(0), no length", new StretchedCarpet().letGo(0), NO);
    }

    @Says(promise = 12, value = "n (1 to 60) MONTHS go by: which month it is.")
    private static void monthsOfACall() {
        told("pass(n)", 1, 60, n -> new StretchedCarpet().pass(n));
        due("pass(1)", new StretchedCarpet().pass(1), 1);
        due("pass(60), no length", new StretchedCarpet().pass(60), 60);
    }

    @Says(promise = 12, value = "BAD; NO: it would be above 999.")
    private static void theLastMonth() {
        for (int n : new int[] {1, 2, 39, 59, 60}) {
            StretchedCarpet x = passedTo(new StretchedCarpet(), 1000 - n);
            due("pass(" + n + "), to 1000", x.pass(n), NO);
            due("count(6)", x.count(6), 1000 - n);
            if (n > 1) {
                due("pass(" + (n - 1) + "), to 999", x.pass(n - 1), 999);
            }
            due("pass(1), at 999", x.pass(1), NO);
            due("pass(60), at 999", x.pass(60), NO);
            due("count(6)", x.count(6), 999);
        }
    }

    @Says(promise = 13, value = "UNDONE: how many more can be. NO.")
    private static void nothingToUndo() {
        StretchedCarpet x = new StretchedCarpet();
        due("undo(), none", x.undo(), NO);
        x.cut(1);
        due("undo(), the only one", x.undo(), 0);
        due("undo(), none", x.undo(), NO);
        x.keep();
        x.seen(0, 0);
        x.write('d');
        due("undo(), no act", x.undo(), NO);
        counts(x, 7, 0, 50, 0, 0, 0, 0, 1, 0, 1, 1);
        x.cut(1);
        due("undo(), an act behind them", x.undo(), 0);
        counts(x, 7, 0, 50, 0, 0, 0, 0, 1, 0, 1, 1);
    }

    @Says(promise = 14, value = "(0 first; NONE: there are not so many)")
    private static void notSoManyLengths() {
        planned(new StretchedCarpet(), 38, 14, 3, 1, 3);
        StretchedCarpet x = laid("s1,1,1;".repeat(12) + "r1,60;");
        planned(x, 36, 22, 1, 1, 1, 1, 1, 1, 1, 1, 1, 1, 1, 1);
        for (int k = 12; k <= 40; k++) {
            due("plan(" + k + ")", x.plan(k), NONE);
        }
        due("plan(highest)", x.plan(HIGHEST), NONE);
    }

    @Says(promise = 14, value = "NONE; BAD.")
    private static void planOfNoSuchNumber() {
        StretchedCarpet x = new StretchedCarpet();
        for (int k : new int[] {-3, -4, -258, -65538, LOWEST}) {
            due("plan(" + k + ")", x.plan(k), BAD);
        }
        planNone(laid("s40,0,0;r1,1;"));
    }

    @Says(promise = 15, value = "(0 first; NONE: there are not so many)")
    private static void notSoManyWalls() {
        StretchedCarpet x = hooked("");
        due("order(2)", x.order(2), 3);
        due("order(3), of 3", x.order(3), NONE);
        for (int w = 1; w < 4; w++) {
            x.hook(w, 9);
        }
        due("order(-1), of none", x.order(-1), 0);
        due("order(0), of none", x.order(0), NONE);
    }

    @Says(promise = 15, value = "NONE; BAD (k above 3, too).")
    private static void orderOfNoSuchNumber() {
        told("order(k)", -1, 3, k -> covered().order(k));
        ordered(small("h1;"), NONE);
    }

    @Says(promise = 16, value = "NONE (HOOKED, torn, too)")
    private static void noKickForHookedAndTorn() {
        StretchedCarpet x = hooked("h12;");
        x.hook(1, 20);
        for (int t : new int[] {0, 1, 2, 30}) {
            due("kickFor(0, " + t + "), HOOKED", x.kickFor(0, t), NONE);
            due("kickFor(1, " + t + "), torn", x.kickFor(1, t), NONE);
        }
        x.letGo(0);
        due("kickFor(0, 2), let go", x.kickFor(0, 2), 0);
        due("kickFor(1, 0), torn, none HOOKED", x.kickFor(1, 0), NONE);
    }

    @Says(promise = 16, value = "BAD.")
    private static void kickForNoSuchNumber() {
        told("kickFor(1, t)", 0, 30, t -> covered().kickFor(1, t));
        told("kickFor(w, 2)", 0, 3, w -> covered().kickFor(w, 2));
    }

    @Says(promise = 17, value = "WAVES. NONE.")
    private static void neverWaves() {
        due("waves(), no length", new StretchedCarpet().waves(), NONE);
        StretchedCarpet x = small("h1;d9;");
        x.hook(0, 0);
        due("waves(), torn", x.waves(), NONE);
        StretchedCarpet y = hooked("d9;");
        due("waves()", y.waves(), 1);
        y.letGo(0);
        due("waves(), let go", y.waves(), NONE);
        due("waves(), dry", tightBy(2, "d0;d1;d2;").waves(), NONE);
    }

    @Says(promise = 18, value = "LONGEST. NONE.")
    private static void theOnlyOneIsLongest() {
        due("longest(), none", covered().longest(), NONE);
        for (int w = 0; w < 4; w++) {
            StretchedCarpet x = covered();
            x.hook(w, 0);
            due("longest(), HOOKED", x.longest(), w);
            x.pass(60);
            due("longest(), WAVES", x.longest(), w);
            x.letGo(w);
            due("longest(), let go", x.longest(), NONE);
        }
    }

    @Says(promise = 19, value = "SEEN: how many. BAD (f: 0 to 20); FULL.")
    private static void kicksThatWereSeen() {
        told("seen(f, 9)", 0, 20, f -> new StretchedCarpet().seen(f, 9));
        StretchedCarpet x = new StretchedCarpet();
        for (int i = 1; i <= 6; i++) {
            due("seen(20, 18)", x.seen(20, 18), i);
        }
        due("seen(20, 18), full", x.seen(20, 18), FULL);
        x.forget();
        due("seen(20, 18), not full", x.seen(20, 18), 1);
    }

    @Says(promise = 20, value = "Nothing is SEEN: how many were.")
    private static void forgotten() {
        StretchedCarpet x = new StretchedCarpet();
        due("forget(), none", x.forget(), 0);
        for (int i = 0; i < 6; i++) {
            x.seen(0, 40);
        }
        due("forget(), six", x.forget(), 6);
        due("forget(), again", x.forget(), 0);
        due("count(7)", x.count(7), 0);
        due("may(0)", x.may(0), 15);
        due("may(1)", x.may(1), 1022);
    }

    @Says(promise = 21, value = "KINDS (what = 0), GIVES (1), as bits. BAD.")
    private static void mayOfNoSuchNumber() {
        told("may(what)", 0, 1, new StretchedCarpet()::may);
        StretchedCarpet x = new StretchedCarpet();
        x.seen(0, 40);
        due("may(0), none", x.may(0), 0);
        due("may(1), none", x.may(1), 0);
    }

    @Says(promise = 22, value = "HALL. BAD.")
    private static void hallsOfNoSuchSize() {
        told("hall(w, 1)", 1, 6, w -> new StretchedCarpet().hall(w, 1));
        told("hall(1, n)", 1, 40, n -> new StretchedCarpet().hall(1, n));
    }

    @Says(promise = 23, value = "LEFT OVER: of RESTS (what = 0), of the ROLL (1). BAD.")
    private static void leftOfNoSuchNumber() {
        told("left(what)", 0, 1, covered()::left);
        due("left(0)", covered().left(0), 22);
        due("left(1)", covered().left(1), 36);
    }

    @Says(promise = 24, value = "above (part = 0), below (1). BAD")
    private static void likelyOfNoSuchNumber() {
        told("likely(w, 1, 5, 0)", 0, 3, w -> hooked("").likely(w, 1, 5, 0));
        told("likely(0, n, 5, 0)", 0, 6, n -> hooked("").likely(0, n, 5, 0));
        told("likely(0, 1, x, 0)", 0, 10, x -> hooked("").likely(0, 1, x, 0));
        told("likely(0, 1, 5, part)", 0, 1, part -> hooked("").likely(0, 1, 5, part));
    }

    @Says(promise = 24, value = "NO: not HOOKED.")
    private static void likelyForAHookedOneOnly() {
        StretchedCarpet x = hooked("h12;");
        x.hook(1, 20);
        isLikely(x, 0, 1, 5, 1, 2);
        isLikely(x, 1, 1, 5, NO, NO);
        isLikely(x, 2, 0, 0, NO, NO);
        x.letGo(0);
        isLikely(x, 0, 1, 5, NO, NO);
        isLikely(new StretchedCarpet(), 0, 1, 5, NO, NO);
    }

    @Says(promise = 25, value = "torn (what = 0), TIGHT (1). BAD")
    private static void yearOfNoSuchNumber() {
        told("year(z, 1, 1)", 0, 9999, z -> covered().year(z, 1, 1));
        told("year(0, n, 1)", 1, 40, n -> covered().year(0, n, 1));
        told("year(0, 1, what)", 0, 1, what -> covered().year(0, 1, what));
    }

    @Says(promise = 25, value = "NO: not all STRIPS have one.")
    private static void noYearAheadOfTheLengths() {
        isYear(new StretchedCarpet(), 0, 1, NO, NO);
        StretchedCarpet x = withCuts(new StretchedCarpet(), 3, 3);
        isYear(x, 9999, 40, NO, NO);
        x.cut(1);
        isYear(x, 0, 1, 0, 1);
        x.undo();
        isYear(x, 0, 1, NO, NO);
    }

    @Says(promise = 26, value = "KEPT: how many. FULL.")
    private static void keptFull() {
        StretchedCarpet x = new StretchedCarpet();
        due("keep()", x.keep(), 1);
        due("keep()", x.keep(), 2);
        due("keep(), full", x.keep(), FULL);
        due("keep(), full", x.keep(), FULL);
        due("count(9)", x.count(9), 2);
        due("count(8), no act", x.count(8), 0);
        x.back();
        due("keep(), one is back", x.keep(), 2);
    }

    @Says(promise = 27, value = "As KEPT last (it is KEPT no more then): how many are left")
    private static void theLastKeptComesBackOnce() {
        StretchedCarpet x = new StretchedCarpet();
        x.pass(1);
        x.keep();
        x.pass(2);
        x.keep();
        x.pass(4);
        due("back()", x.back(), 1);
        due("count(6), the last", x.count(6), 3);
        x.pass(8);
        due("back()", x.back(), 0);
        due("count(6), the first", x.count(6), 1);
        due("back(), none", x.back(), NO);
        due("count(6)", x.count(6), 1);
    }

    @Says(promise = 27, value = "nothing is UNDONE then")
    private static void nothingToUndoOnceItIsBack() {
        StretchedCarpet x = new StretchedCarpet();
        x.pass(1);
        x.keep();
        for (int i = 0; i < 9; i++) {
            x.pass(1);
        }
        x.back();
        due("count(8)", x.count(8), 0);
        due("undo()", x.undo(), NO);
        due("count(6)", x.count(6), 1);
        x.pass(5);
        due("undo()", x.undo(), 0);
        due("count(6)", x.count(6), 1);
        due("undo()", x.undo(), NO);
    }

    @Says(promise = 27, value = "NO.")
    private static void nothingIsKept() {
        StretchedCarpet x = covered();
        due("back(), none", x.back(), NO);
        due("count(8), still to be undone", x.count(8), 3);
        x.keep();
        x.back();
        x.cut(1);
        x.hook(0, 0);
        due("back(), none left", x.back(), NO);
        counts(x, 7, 3, 12, 2, 1, 0, 0, 0, 1, 0, 0);
    }

    @Says(promise = 28, value = "How many: 0 STRIPS, 1 LENGTHS cut, 2 how long the ROLL is, 3 SEAMS, 4 HOOKED, 5 torn, "
        + "6 the month, 7 SEEN, 8 that can be UNDONE, 9 KEPT, 10 letters of THE TEXT. BAD.")
    private static void theLeastAndTheMostOfEach() {
        told("count(what)", 0, 10, new StretchedCarpet()::count);
        counts(laid("s1,0,0;"), 1, 0, 60, 0, 0, 0, 0, 0, 0, 0, 7);
        StretchedCarpet x = laid("s1,0,0;".repeat(12) + "r1,12;o0;h2;" + "k1,1;".repeat(19) + "d0;".repeat(3));
        for (int s = 0; s < 12; s++) {
            x.cut(1);
        }
        passedTo(x, 999);
        for (int w = 0; w < 4; w++) {
            x.hook(w, 0);
        }
        for (int i = 0; i < 7; i++) {
            x.seen(0, 0);
            x.keep();
        }
        counts(x, 12, 12, 0, 11, 4, 0, 999, 6, 8, 2, 200);
        for (int w = 0; w < 4; w++) {
            x.letGo(w);
        }
        x.hook(0, 0);
        for (int w = 1; w < 4; w++) {
            x.hook(w, 20);
        }
        x.letGo(0);
        counts(x, 12, 12, 0, 11, 0, 3, 999, 6, 8, 2, 200);
    }

    // ---- all of them

    /** What the document says below a promise (0: ahead of all of them), each line's end as a space. */
    private static String part(String document, int promise) {
        int begin = promise == 0 ? 0 : document.indexOf("## Promise " + promise + ": ");
        int end = document.indexOf(" ## Promise ", begin + 1);
        return document.substring(begin, end < 0 ? document.length() : end);
    }

    private static void run(Method method, String document) throws ReflectiveOperationException {
        Says says = method.getAnnotation(Says.class);
        test = (says.promise() == 0 ? "" : "promise " + says.promise() + ", ") + "\"" + says.value() + "\"";
        due("so says the document", part(document, says.promise()).contains(says.value()), true);
        try {
            method.invoke(null);
        } catch (InvocationTargetException thrown) {
            due(method.getName() + "()", thrown.getCause(), "no exception");
        }
    }

    /** A call that does not end fails the test, too. */
    private static void watch() {
        Thread watch = new Thread(() -> {
            try {
                Thread.sleep(60_000);
            } catch (InterruptedException ended) {
                return;
            }
            System.out.println(test + ": a call does not end");
            Runtime.getRuntime().halt(1);
        });
        watch.setDaemon(true);
        watch.start();
    }

    public static void main(String[] args) throws IOException, ReflectiveOperationException {
        watch();
        String document = Files.readString(DOCUMENT).replaceAll("```(text|java)?", "").replaceAll("\\s+", " ");
        int tests = 0;
        for (Method method : EdgeTest.class.getDeclaredMethods()) {
            if (method.isAnnotationPresent(Says.class)) {
                run(method, document);
                tests++;
            }
        }
        due("tests", tests > 0, true);
        end();
    }
}
