import java.util.ArrayDeque;
import java.util.ArrayList;
import java.util.Arrays;
import java.util.Deque;
import java.util.List;
import java.util.Random;
import java.util.regex.Matcher;
import java.util.regex.Pattern;

/** Long runs of drawn calls (always the same ones), each answer beside that of a slow, plain model of the document. */
public final class ModelTest {
    private static final int BAD = -1, NO = -2, FULL = -3, NONE = -4;
    private static final int RUNS = 4000, CALLS = 512;
    private static final Pattern ITEM = Pattern.compile("([a-z])([0-9]{1,2}(?:,[0-9]{1,2})*);");
    private static final String FIRST =
        "s11,3,2;s11,7,1;s12,2,8;s9,1,3;s9,5,0;s11,0,6;s11,4,4;r3,50;o2;h12;k1,3;d3;d5;d8;d2;";

    // ---- the model

    private static final class Plan {
        final List<int[]> strips = new ArrayList<>();
        final List<Integer> damps = new ArrayList<>();
        int[] roll = {3, 60};
        int over = 2, hold = 12, kind = 0, gives = 3;
        int fault = NONE;

        Plan(String text) {
            Matcher items = ITEM.matcher(text);
            int place = 0;
            while (place < text.length()) {
                items.region(place, text.length());
                if (!items.lookingAt() || !take(items.group(1), items.group(2).split(","))) {
                    fault = place;
                    return;
                }
                place = items.end();
            }
        }

        boolean take(String letter, String[] told) {
            int[] n = Arrays.stream(told).mapToInt(Integer::parseInt).toArray();
            switch (letter + n.length) {
                case "s3":
                    strips.add(n);
                    return n[0] >= 1 && n[0] <= 40 && n[1] <= 9 && n[2] <= 9 && strips.size() <= 12;
                case "r2":
                    roll = n;
                    return n[0] >= 1 && n[0] <= 6 && n[1] >= 1;
                case "o1":
                    over = n[0];
                    return n[0] <= 5;
                case "h1":
                    hold = n[0];
                    return n[0] >= 1 && n[0] <= 30;
                case "k2":
                    kind = n[0];
                    gives = n[1];
                    return n[0] <= 3 && n[1] >= 1 && n[1] <= 9;
                case "d1":
                    damps.add(n[0]);
                    return n[0] <= 9 && damps.size() <= 12;
                default:
                    return false;
            }
        }

        int damp(int month) {
            return damps.isEmpty() ? 4 : damps.get(month % damps.size());
        }

        int lengthOf(int from, int b) {
            return strips.subList(from, from + b).stream().mapToInt(s -> s[0]).max().getAsInt() + over;
        }

        int gives(int kind, int gives, int hooked) {
            return new int[] {gives / 2, gives, 2 * gives, gives + hooked}[kind];
        }
    }

    private static final class Stand {
        final List<Integer> breadths = new ArrayList<>();
        int roll, month;
        int[] tight = new int[4];
        boolean[] hooked = new boolean[4], torn = new boolean[4];

        Stand copy() {
            Stand to = new Stand();
            to.breadths.addAll(breadths);
            to.roll = roll;
            to.month = month;
            to.tight = tight.clone();
            to.hooked = hooked.clone();
            to.torn = torn.clone();
            return to;
        }

        int covered() {
            return breadths.stream().mapToInt(Integer::intValue).sum();
        }

        int number(boolean[] of) {
            int number = 0;
            for (boolean b : of) {
                number += b ? 1 : 0;
            }
            return number;
        }

        int wouldBe(Plan p, int w, int f) {
            int already = number(hooked);
            if (already == 0) {
                return 2;
            }
            int opposite = new int[] {2, 3, 0, 1}[w];
            int half = hooked[opposite] ? tight[opposite] / 2 : 0;
            return Math.max(0, f + half - p.gives(p.kind, p.gives, already));
        }

        int hook(Plan p, int w, int f) {
            int by = wouldBe(p, w, f);
            if (by > p.hold) {
                torn[w] = true;
                tight[w] = 0;
            } else {
                hooked[w] = true;
                tight[w] = by;
            }
            return tight[w];
        }

        void letGo(int w) {
            hooked[w] = false;
            tight[w] = 0;
        }

        void month(Plan p) {
            for (int w = 0; w < 4; w++) {
                if (hooked[w]) {
                    tight[w] = Math.max(0, tight[w] - p.damp(month) / 3);
                }
            }
            month++;
        }

        boolean waves(int w) {
            return hooked[w] && tight[w] < 2;
        }
    }

    private static final class Model {
        final StringBuilder text = new StringBuilder();
        Plan p = new Plan(FIRST);
        Stand s = new Stand();
        final Deque<Stand> undone = new ArrayDeque<>();
        final Deque<Stand> kept = new ArrayDeque<>();
        final List<int[]> seen = new ArrayList<>();

        Model() {
            s.roll = p.roll[1];
        }

        int answer(String call, int... a) {
            switch (call) {
                case "write":
                    return a[0] < 32 || a[0] > 126 ? BAD : text.length() == 200 ? FULL : text.append((char) a[0]).length();
                case "wipe":
                    int was = text.length();
                    text.setLength(0);
                    return was;
                case "fault":
                    return new Plan(text.toString()).fault;
                case "lay":
                    return lay();
                case "strip":
                    return strip(a[0], a[1]);
                case "wall":
                    return wall(a[0], a[1]);
                case "damp":
                    return a[0] < 0 || a[0] > 999 ? BAD : p.damp(a[0]);
                case "cut":
                    return cut(a[0]);
                case "hook":
                    return hook(a[0], a[1]);
                case "letGo":
                    return letGo(a[0]);
                case "pass":
                    return pass(a[0]);
                case "undo":
                    if (undone.isEmpty()) {
                        return NO;
                    }
                    s = undone.pop();
                    return undone.size();
                case "plan":
                    return plan(a[0]);
                case "order":
                    return order(a[0]);
                case "kickFor":
                    return kickFor(a[0], a[1]);
                case "waves":
                    return waves();
                case "longest":
                    return longest();
                case "seen":
                    if (a[0] < 0 || a[0] > 20 || a[1] < 0 || a[1] > 40) {
                        return BAD;
                    }
                    if (seen.size() == 6) {
                        return FULL;
                    }
                    seen.add(a);
                    return seen.size();
                case "forget":
                    int were = seen.size();
                    seen.clear();
                    return were;
                case "may":
                    return may(a[0]);
                case "hall":
                    return hall(a[0], a[1]);
                case "left":
                    return a[0] == 0 ? rests() : a[0] == 1 ? p.roll[0] * s.roll : BAD;
                case "likely":
                    return likely(a[0], a[1], a[2], a[3]);
                case "year":
                    return year(a[0], a[1], a[2]);
                case "keep":
                    if (kept.size() == 2) {
                        return FULL;
                    }
                    kept.push(s.copy());
                    return kept.size();
                case "back":
                    if (kept.isEmpty()) {
                        return NO;
                    }
                    s = kept.pop();
                    undone.clear();
                    return kept.size();
                case "count":
                    return count(a[0]);
                default:
                    throw new IllegalStateException(call);
            }
        }

        int lay() {
            Plan next = new Plan(text.toString());
            if (next.fault != NONE || next.strips.isEmpty()) {
                return NO;
            }
            p = next;
            s = new Stand();
            s.roll = p.roll[1];
            undone.clear();
            kept.clear();
            seen.clear();
            return p.strips.size();
        }

        int lengthAt(int strip) {
            int k = 0;
            for (int b : s.breadths) {
                for (int i = 0; i < b; i++, strip--) {
                    if (strip == 0) {
                        return k;
                    }
                }
                k++;
            }
            return NONE;
        }

        int strip(int i, int what) {
            if (i < 0 || i >= p.strips.size() || what < 0 || what > 4) {
                return BAD;
            }
            if (what < 3) {
                return p.strips.get(i)[what];
            }
            if (what == 3) {
                return lengthAt(i);
            }
            return lengthAt(i) >= 0 && lengthAt(i + 1) == lengthAt(i) + 1 ? 1 : 0;
        }

        int wall(int w, int what) {
            if (w < 0 || w > 3 || what < 0 || what > 3) {
                return BAD;
            }
            boolean[] is = {false, s.hooked[w], s.torn[w], s.waves(w)};
            return what == 0 ? s.tight[w] : is[what] ? 1 : 0;
        }

        void act() {
            undone.push(s.copy());
            if (undone.size() > 8) {
                undone.removeLast();
            }
        }

        int cut(int b) {
            if (b < 1 || b > 6) {
                return BAD;
            }
            int from = s.covered();
            if (b > p.roll[0] || from + b > p.strips.size() || p.lengthOf(from, b) > s.roll) {
                return NO;
            }
            act();
            s.breadths.add(b);
            s.roll -= p.lengthOf(from, b);
            return p.lengthOf(from, b);
        }

        boolean all() {
            return s.covered() == p.strips.size();
        }

        int hook(int w, int f) {
            if (w < 0 || w > 3 || f < 0 || f > 20) {
                return BAD;
            }
            if (!all() || s.hooked[w] || s.torn[w]) {
                return NO;
            }
            act();
            return s.hook(p, w, f);
        }

        int letGo(int w) {
            if (w < 0 || w > 3) {
                return BAD;
            }
            if (!s.hooked[w]) {
                return NO;
            }
            act();
            int was = s.tight[w];
            s.letGo(w);
            return was;
        }

        int pass(int n) {
            if (n < 1 || n > 60) {
                return BAD;
            }
            if (s.month + n > 999) {
                return NO;
            }
            act();
            for (int i = 0; i < n; i++) {
                s.month(p);
            }
            return s.month;
        }

        // all ways, in the order of their breadths
        void ways(List<Integer> way, int from, List<List<Integer>> into) {
            if (from == p.strips.size()) {
                into.add(new ArrayList<>(way));
            }
            for (int b = 1; b <= p.roll[0] && from + b <= p.strips.size(); b++) {
                way.add(b);
                ways(way, from + b, into);
                way.remove(way.size() - 1);
            }
        }

        int plan(int k) {
            if (k < -2) {
                return BAD;
            }
            List<List<Integer>> ways = new ArrayList<>();
            ways(new ArrayList<>(), s.covered(), ways);
            List<Integer> best = null;
            int least = 0, leastSeams = 0;
            for (List<Integer> way : ways) {
                int from = s.covered(), much = 0, seams = 0;
                for (int b : way) {
                    much += p.lengthOf(from, b);
                    if (from > 0) {
                        seams += p.strips.get(from - 1)[1] + p.strips.get(from - 1)[2];
                    }
                    from += b;
                }
                if (much <= s.roll && (best == null || much < least || much == least && seams < leastSeams)) {
                    best = way;
                    least = much;
                    leastSeams = seams;
                }
            }
            if (best == null) {
                return NONE;
            }
            return k == -1 ? least : k == -2 ? leastSeams : k < best.size() ? best.get(k) : NONE;
        }

        List<Integer> bestOrder;
        int bestKicks;

        void orders(Stand at, List<Integer> order, int kicks) {
            boolean any = false;
            for (int w = 0; w < 4; w++) {
                if (at.hooked[w] || at.torn[w]) {
                    continue;
                }
                any = true;
                int f = least(at, w, at.number(at.hooked) == 0 ? 2 : 4);
                if (f != NONE) {
                    Stand next = at.copy();
                    next.hook(p, w, f);
                    order.add(w);
                    orders(next, order, kicks + f);
                    order.remove(order.size() - 1);
                }
            }
            if (!any && (bestOrder == null || kicks < bestKicks)) {
                bestOrder = new ArrayList<>(order);
                bestKicks = kicks;
            }
        }

        int least(Stand at, int w, int t) {
            for (int f = 0; f <= 20; f++) {
                if (at.wouldBe(p, w, f) >= t && at.wouldBe(p, w, f) <= p.hold) {
                    return f;
                }
            }
            return NONE;
        }

        int order(int k) {
            if (k < -1 || k > 3) {
                return BAD;
            }
            bestOrder = null;
            orders(s.copy(), new ArrayList<>(), 0);
            if (bestOrder == null) {
                return NONE;
            }
            return k == -1 ? bestKicks : k < bestOrder.size() ? bestOrder.get(k) : NONE;
        }

        int kickFor(int w, int t) {
            if (w < 0 || w > 3 || t < 0 || t > 30) {
                return BAD;
            }
            return s.hooked[w] || s.torn[w] ? NONE : least(s, w, t);
        }

        int wavesAt(int w) {
            Stand later = s.copy();
            for (int n = 0; n <= 60; n++) {
                if (later.waves(w)) {
                    return n;
                }
                later.month(p);
            }
            return 1000;
        }

        int waves() {
            int first = 1000;
            for (int w = 0; w < 4; w++) {
                first = Math.min(first, wavesAt(w));
            }
            return first == 1000 ? NONE : first;
        }

        int longest() {
            int last = NONE;
            for (int w = 3; w >= 0; w--) {
                if (s.hooked[w] && (last == NONE || wavesAt(w) >= wavesAt(last))) {
                    last = w;
                }
            }
            return last;
        }

        boolean fits(int kind, int gives) {
            for (int[] one : seen) {
                if (Math.max(0, one[0] + 1 - p.gives(kind, gives, 1)) != one[1]) {
                    return false;
                }
            }
            return true;
        }

        int may(int what) {
            int bits = 0;
            for (int i = 0; i <= 9; i++) {
                if (what == 0 && i < 4 && fits(i, p.gives) || what == 1 && i > 0 && fits(p.kind, i)) {
                    bits += 1 << i;
                }
            }
            return what == 0 || what == 1 ? bits : BAD;
        }

        int hall(int w, int n) {
            if (w < 1 || w > 6 || n < 1 || n > 40) {
                return BAD;
            }
            int from = 0;
            for (int b : s.breadths) {
                if (p.roll[0] - b >= w && p.lengthOf(from, b) >= n) {
                    return 1;
                }
                from += b;
            }
            return p.roll[0] >= w && s.roll >= n ? 2 : 0;
        }

        int rests() {
            int from = 0, area = 0;
            for (int b : s.breadths) {
                area += (p.roll[0] - b) * p.lengthOf(from, b);
                from += b;
            }
            return area;
        }

        // every run of months by itself: a damp one weighs x, another one 10 less x
        long wavingRuns(int tight, int n, int x) {
            if (n == 0) {
                return tight < 2 ? 1 : 0;
            }
            return x * wavingRuns(Math.max(0, tight - 2), n - 1, x) + (10 - x) * wavingRuns(tight, n - 1, x);
        }

        int likely(int w, int n, int x, int part) {
            if (w < 0 || w > 3 || n < 0 || n > 6 || x < 0 || x > 10 || part < 0 || part > 1) {
                return BAD;
            }
            if (!s.hooked[w]) {
                return NO;
            }
            long above = wavingRuns(s.tight[w], n, x);
            long below = Math.round(Math.pow(10, n));
            for (int by = 2; by <= 5; by += 3) {
                while (above % by == 0 && below % by == 0) {
                    above /= by;
                    below /= by;
                }
            }
            return (int) (part == 0 ? above : above == 0 ? 1 : below);
        }

        int year(int z, int n, int what) {
            if (z < 0 || z > 9999 || n < 1 || n > 40 || what < 0 || what > 1) {
                return BAD;
            }
            if (!all()) {
                return NO;
            }
            Stand later = s.copy();
            for (int i = 0; i < n; i++) {
                long x = 7919L * z + 6151L * i + 1;
                int draw = (int) (x * x % 65521 / 2);
                int w = draw % 4;
                if (later.hooked[w] && (draw / 4) % 5 == 0) {
                    later.letGo(w);
                } else if (!later.hooked[w] && !later.torn[w]) {
                    later.hook(p, w, (draw / 32) % 16);
                }
                if ((draw / 512) % 3 == 0) {
                    later.month(p);
                }
            }
            return what == 0 ? later.number(later.torn) : Arrays.stream(later.tight).sum();
        }

        int count(int what) {
            int[] counts = {
                p.strips.size(), s.breadths.size(), s.roll, Math.max(0, s.breadths.size() - 1),
                s.number(s.hooked), s.number(s.torn), s.month, seen.size(), undone.size(), kept.size(), text.length(),
            };
            return what < 0 || what >= counts.length ? BAD : counts[what];
        }
    }

    // ---- the class, by the calls' names

    private static int answer(StretchedCarpet x, String call, int... a) {
        switch (call) {
            case "write": return x.write(a[0]);
            case "wipe": return x.wipe();
            case "fault": return x.fault();
            case "lay": return x.lay();
            case "strip": return x.strip(a[0], a[1]);
            case "wall": return x.wall(a[0], a[1]);
            case "damp": return x.damp(a[0]);
            case "cut": return x.cut(a[0]);
            case "hook": return x.hook(a[0], a[1]);
            case "letGo": return x.letGo(a[0]);
            case "pass": return x.pass(a[0]);
            case "undo": return x.undo();
            case "plan": return x.plan(a[0]);
            case "order": return x.order(a[0]);
            case "kickFor": return x.kickFor(a[0], a[1]);
            case "waves": return x.waves();
            case "longest": return x.longest();
            case "seen": return x.seen(a[0], a[1]);
            case "forget": return x.forget();
            case "may": return x.may(a[0]);
            case "hall": return x.hall(a[0], a[1]);
            case "left": return x.left(a[0]);
            case "likely": return x.likely(a[0], a[1], a[2], a[3]);
            case "year": return x.year(a[0], a[1], a[2]);
            case "keep": return x.keep();
            case "back": return x.back();
            case "count": return x.count(a[0]);
            default: throw new IllegalStateException(call);
        }
    }

    // ---- the runs

    private static final class Run {
        final Random random;
        final int number;
        final Model model = new Model();
        final StretchedCarpet carpet = new StretchedCarpet();
        final StringBuilder calls = new StringBuilder();
        int made = 0;
        int wrong = 0;

        Run(int number) {
            this.number = number;
            random = new Random(number);
        }

        int call(String name, int... a) {
            if (made >= CALLS || wrong > 0) {
                return 0;
            }
            made++;
            int want = model.answer(name, a);
            int got = answer(carpet, name, a);
            calls.append(name).append(Arrays.toString(a)).append(' ');
            if (got != want) {
                wrong++;
                System.out.println("run " + number + ": " + calls + "answered " + got + ", due is " + want);
            }
            return want;
        }

        // one of least .. most, at times a little outside, seldom far outside
        int near(int least, int most) {
            int odd = random.nextInt(60);
            if (odd == 0) {
                return random.nextBoolean() ? Integer.MAX_VALUE : Integer.MIN_VALUE;
            }
            if (odd < 4) {
                return odd == 1 ? least - 1 : most + 1;
            }
            return least + random.nextInt(most - least + 1);
        }

        int within(int least, int most) {
            return least + random.nextInt(most - least + 1);
        }

        String item(boolean odd) {
            int over = odd ? 1 + random.nextInt(3) : 0;
            switch (random.nextInt(9)) {
                case 0: return "r" + within(1, 6 + over) + "," + within(1, 99) + ";";
                case 1: return "o" + within(0, 5 + over) + ";";
                case 2: return "h" + within(odd ? 0 : 1, 30 + over) + ";";
                case 3: return "k" + within(0, 3 + over) + "," + within(odd ? 0 : 1, 9 + over) + ";";
                case 4: return "d" + within(0, 9 + over) + ";";
                default: return "s" + within(odd ? 0 : 1, 40 + over) + "," + within(0, 9 + over) + "," + within(0, 9) + ";";
            }
        }

        void type() {
            StringBuilder text = new StringBuilder();
            int items = random.nextInt(20) == 0 ? 16 + random.nextInt(20) : 1 + random.nextInt(16);
            boolean odd = random.nextInt(6) == 0;
            boolean flat = random.nextInt(4) == 0;
            for (int i = 0; i < items; i++) {
                text.append(flat ? "s" + within(5, 6) + "," + within(0, 1) + "," + within(0, 1) + ";" : item(odd));
            }
            if (random.nextInt(3) > 0) {
                text.append("r").append(within(1, 6)).append(",99;");
            }
            if (random.nextInt(8) == 0) {
                text.setCharAt(random.nextInt(text.length()), (char) within(32, 126));
            }
            if (random.nextInt(12) == 0) {
                text.deleteCharAt(random.nextInt(text.length()));
            }
            if (random.nextInt(4) > 0) {
                call("wipe");
            }
            for (int i = 0; i < text.length(); i++) {
                call("write", text.charAt(i));
            }
            call("fault");
            call("lay");
        }

        void cover() {
            for (int i = 0; i < 14 && call("cut", within(1, 4)) != BAD; i++) {
                if (model.all()) {
                    return;
                }
            }
        }

        void look() {
            switch (random.nextInt(16)) {
                case 0: call("strip", near(0, 12), near(0, 4)); break;
                case 1: call("wall", near(0, 3), near(0, 3)); break;
                case 2: call("damp", near(0, 999)); break;
                case 3: call("plan", near(-2, 12)); break;
                case 4: call("order", near(-1, 3)); break;
                case 5: call("kickFor", near(0, 3), near(0, random.nextBoolean() ? 6 : 30)); break;
                case 6: call("waves"); break;
                case 7: call("longest"); break;
                case 8: call("may", near(0, 1)); break;
                case 9: call("hall", near(1, 6), near(1, 40)); break;
                case 10: call("left", near(0, 1)); break;
                case 11: call("likely", near(0, 3), near(0, 6), near(0, 10), near(0, 1)); break;
                case 12: call("year", near(0, 9999), near(1, 40), near(0, 1)); break;
                case 13: call("fault"); break;
                default: call("count", near(0, 10)); break;
            }
        }

        void act() {
            switch (random.nextInt(24)) {
                case 0: call("write", near(32, 126)); break;
                case 1: if (random.nextInt(6) == 0) { call("lay"); } break;
                case 2: if (random.nextInt(6) == 0) { call("wipe"); } break;
                case 3: call("seen", near(0, 20), near(0, 40)); break;
                case 4: int f = within(0, 20); call("seen", f, Math.max(0, f + 1 - model.p.gives(random.nextInt(4), within(1, 9), 1))); break;
                case 5: if (random.nextInt(3) == 0) { call("forget"); } break;
                case 6: call("keep"); break;
                case 7: call("back"); break;
                case 8: case 9: call("cut", near(1, 6)); break;
                case 10: cover(); break;
                case 11: case 12: case 13: call("letGo", near(0, 3)); break;
                case 14: call("pass", near(1, 60)); break;
                case 15: case 16: call("pass", within(1, 2)); break;
                case 17: for (int i = random.nextInt(10); i > 0; i--) { call("undo"); } break;
                default: call("hook", near(0, 3), near(0, 20)); break;
            }
        }

        boolean go() {
            if (random.nextInt(10) > 0) {
                type();
            }
            cover();
            while (made < CALLS && wrong == 0) {
                if (random.nextInt(150) == 0) {
                    type();
                    cover();
                }
                act();
                look();
                look();
            }
            return wrong == 0;
        }
    }

    public static void main(String[] args) {
        int wrong = 0;
        for (int number = 1; number <= RUNS && wrong < 3; number++) {
            wrong += new Run(number).go() ? 0 : 1;
        }
        System.out.println(wrong == 0 ? "all answers are as due" : wrong + " runs are not as due");
        if (wrong != 0) {
            System.exit(1);
        }
    }
}
