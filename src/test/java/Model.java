import java.math.BigInteger;
import java.util.ArrayList;
import java.util.Arrays;
import java.util.HashMap;
import java.util.LinkedHashSet;
import java.util.List;
import java.util.Map;
import java.util.Set;

/**
 * The document once more, by other means than the program's: kinds as classes, the grammar as it stands,
 * orders as lists, tapes as rows of their own sort. Slow and plain; the random runs compare the two.
 */
final class Model {
    static final long NO = Long.MIN_VALUE;

    // ---- kinds

    static class Drawer {
        int number, kind, v, sent;
        int[] row = {5, 5, 5, 5};
        List<Integer> trace;

        int pull(int plain, int shorts, int longs) {
            return plain;
        }

        int draws(int x) {
            trace.add(10);
            return x + number;
        }

        int shows(int x) {
            trace.add(11);
            return draws(x) - v;
        }

        int tells(int x) {
            trace.add(12);
            return shows(x) * 2;
        }
    }

    static class Keen extends Drawer {
        @Override int pull(int plain, int shorts, int longs) {
            return plain < v ? 0 : plain - v;
        }

        @Override int shows(int x) {
            trace.add(20);
            return super.shows(x) ^ 6;
        }
    }

    static class Bold extends Drawer {
        @Override int pull(int plain, int shorts, int longs) {
            return plain + v;
        }

        @Override int draws(int x) {
            trace.add(30);
            return super.draws(x * 3);
        }
    }

    static class Blind extends Drawer {
        @Override int pull(int plain, int shorts, int longs) {
            return 10;
        }

        @Override int tells(int x) {
            trace.add(40);
            return super.tells(x) + shows(1);
        }
    }

    static final class Knowing extends Keen {
        @Override int pull(int plain, int shorts, int longs) {
            return longs < shorts ? super.pull(plain, shorts, longs) : 0;
        }

        @Override int draws(int x) {
            trace.add(50);
            return -super.draws(x);
        }

        @Override int shows(int x) {
            trace.add(51);
            return super.shows(x + 1);
        }
    }

    static final class Rash extends Bold {
        @Override int pull(int plain, int shorts, int longs) {
            return 2 * super.pull(plain, shorts, longs);
        }

        @Override int tells(int x) {
            trace.add(60);
            return super.tells(x - number);
        }
    }

    static final class Told extends Blind {
        @Override int pull(int plain, int shorts, int longs) {
            return 2 * row[sent % 4];
        }

        @Override int shows(int x) {
            trace.add(70);
            return super.shows(x) + super.draws(2);
        }

        @Override int draws(int x) {
            trace.add(71);
            return super.draws(x) ^ v;
        }
    }

    static Drawer made(int kind) {
        switch (kind) {
            case 0: return new Drawer();
            case 1: return new Keen();
            case 2: return new Bold();
            case 3: return new Blind();
            case 4: return new Knowing();
            case 5: return new Rash();
            default: return new Told();
        }
    }

    static boolean isOne(Drawer drawer, int k) {
        switch (k) {
            case 0: return true;
            case 1: return drawer instanceof Keen;
            case 2: return drawer instanceof Bold;
            case 3: return drawer instanceof Blind;
            case 4: return drawer instanceof Knowing;
            case 5: return drawer instanceof Rash;
            default: return drawer instanceof Told;
        }
    }

    // ---- the grammar: what may still come, as rows of names and signs

    private static List<String> rest(List<String> all, String... front) {
        List<String> made = new ArrayList<>(Arrays.asList(front));
        made.addAll(all.subList(1, all.size()));
        return made;
    }

    private static void expand(List<String> stack, Set<List<String>> into) {
        if (stack.isEmpty() || stack.get(0).length() == 1) {
            into.add(stack);
            return;
        }
        String name = stack.get(0).substring(0, 2);
        int n = stack.get(0).length() > 2 ? Integer.parseInt(stack.get(0).substring(2)) : 0;
        List<List<String>> next = new ArrayList<>();
        switch (name) {
            case "HU":
                next.add(rest(stack, "CL"));
                if (n < 10) {
                    next.add(rest(stack, "CL", ";", "HU" + (n + 1)));
                }
                break;
            case "CL":
                next.add(rest(stack, "l", "e", "a", "n", " ", "NU", " ", "EE0"));
                next.add(rest(stack, "s", "h", "y", " ", "NU", " ", "EE0"));
                next.add(rest(stack, "s", "h", "o", "r", "t", " ", "NU"));
                next.add(rest(stack, "m", "o", "r", "e", " ", "NU"));
                break;
            case "NU":
                next.add(rest(stack, "DI"));
                next.add(rest(stack, "DI", "DI"));
                break;
            case "DI":
                for (char c = '0'; c <= '9'; c++) {
                    next.add(rest(stack, "" + c));
                }
                break;
            case "EE":
                next.add(rest(stack, "TT" + n));
                next.add(rest(stack, "TT" + n, "|", "EE" + n));
                break;
            case "TT":
                next.add(rest(stack, "FF" + n));
                next.add(rest(stack, "FF" + n, "&", "TT" + n));
                break;
            case "FF":
                if (n < 4) {
                    next.add(rest(stack, "!", "FF" + (n + 1)));
                    next.add(rest(stack, "(", "EE" + (n + 1), ")"));
                }
                for (char c : "dknslp".toCharArray()) {
                    next.add(rest(stack, "" + c, "OP", "NU"));
                }
                break;
            default:
                next.add(rest(stack, "<"));
                next.add(rest(stack, "="));
                next.add(rest(stack, ">"));
                break;
        }
        for (List<String> one : next) {
            expand(one, into);
        }
    }

    /** -1: a hut. */
    static int fault(String text) {
        Set<List<String>> open = new LinkedHashSet<>();
        expand(List.of("HU1"), open);
        for (int i = 0; i < text.length(); i++) {
            Set<List<String>> next = new LinkedHashSet<>();
            for (List<String> stack : open) {
                if (!stack.isEmpty() && stack.get(0).charAt(0) == text.charAt(i)) {
                    expand(stack.subList(1, stack.size()), next);
                }
            }
            if (next.isEmpty()) {
                return i;
            }
            open = next;
        }
        return open.contains(List.of()) ? -1 : text.length();
    }

    // ---- truths, by cutting texts where no bracket is open

    private static int split(String text, char sign) {
        int open = 0;
        for (int i = 0; i < text.length(); i++) {
            open += text.charAt(i) == '(' ? 1 : text.charAt(i) == ')' ? -1 : 0;
            if (open == 0 && text.charAt(i) == sign) {
                return i;
            }
        }
        return -1;
    }

    static boolean holds(String text, Map<Character, Integer> values) {
        int or = split(text, '|');
        if (or >= 0) {
            return holds(text.substring(0, or), values) | holds(text.substring(or + 1), values);
        }
        int and = split(text, '&');
        if (and >= 0) {
            return holds(text.substring(0, and), values) & holds(text.substring(and + 1), values);
        }
        if (text.charAt(0) == '!') {
            return !holds(text.substring(1), values);
        }
        if (text.charAt(0) == '(') {
            return holds(text.substring(1, text.length() - 1), values);
        }
        int value = values.get(text.charAt(0));
        int number = Integer.parseInt(text.substring(2));
        return text.charAt(1) == '<' ? value < number : text.charAt(1) == '=' ? value == number : value > number;
    }

    // ---- the state

    List<Drawer> drawers = new ArrayList<>();
    List<Integer> order = new ArrayList<>();
    int shorts = 1, longs = 0, drawn = 0, night = 0;
    List<int[]> seen = new ArrayList<>();
    List<Integer> book = new ArrayList<>();
    String hut = "";
    Model kept = null;
    int huts = 0;
    StringBuilder text = new StringBuilder();
    List<Integer> trace = new ArrayList<>();
    Object[] tapes = new Object[6];

    private static void copy(Model from, Model to) {
        to.drawers = new ArrayList<>();
        for (Drawer d : from.drawers) {
            Drawer one = made(d.kind);
            one.number = d.number;
            one.kind = d.kind;
            one.v = d.v;
            one.sent = d.sent;
            one.row = d.row.clone();
            to.drawers.add(one);
        }
        to.order = new ArrayList<>(from.order);
        to.shorts = from.shorts;
        to.longs = from.longs;
        to.drawn = from.drawn;
        to.night = from.night;
        to.seen = new ArrayList<>(from.seen);
        to.book = new ArrayList<>(from.book);
        to.hut = from.hut;
    }

    private boolean is(int drawer) {
        return 0 <= drawer && drawer < drawers.size();
    }

    private int last(String word, int without) {
        int n = without;
        for (String clause : hut.split(";")) {
            if (clause.startsWith(word)) {
                n = Integer.parseInt(clause.split(" ")[1]);
            }
        }
        return n;
    }

    private int wholeShorts() {
        return Math.min(3, Math.max(1, last("short", 1)));
    }

    private int wholeLongs() {
        return Math.max(0, drawers.size() + Math.min(9, last("more", 0)) - wholeShorts());
    }

    private void whole() {
        shorts = wholeShorts();
        longs = wholeLongs();
        drawn = 0;
    }

    private int pull(int who, int place, int s, int l) {
        Drawer d = drawers.get(who);
        Map<Character, Integer> values =
            Map.of('d', who, 'k', d.kind, 'n', d.sent % 10, 's', s, 'l', l, 'p', place);
        int plain = 10;
        for (String clause : hut.split(";")) {
            String[] parts = clause.split(" ");
            if (parts.length == 3 && holds(parts[2], values)) {
                plain += (parts[0].equals("lean") ? 1 : -1) * Integer.parseInt(parts[1]);
            }
        }
        return d.pull(Math.max(0, plain), s, l);
    }

    private long chance(int who, int place, int s, int l) {
        if (s == 0) {
            return 0;
        }
        if (l == 0) {
            return 1000000;
        }
        BigInteger liked = BigInteger.valueOf(s).multiply(BigInteger.valueOf(pull(who, place, s, l)));
        return liked.multiply(BigInteger.valueOf(1000000))
            .divide(liked.add(BigInteger.valueOf(10L * l))).longValueExact();
    }

    /** By drawer. */
    private long[] likelies(List<Integer> by, int more) {
        long[] likely = new long[drawers.size()];
        int straws = wholeShorts() + wholeLongs() + more;
        Map<Integer, Long> mass = new HashMap<>();
        mass.put(wholeShorts(), 1000000L);
        for (int place = 0; place < by.size(); place++) {
            Map<Integer, Long> next = new HashMap<>();
            for (Map.Entry<Integer, Long> one : mass.entrySet()) {
                int n = one.getKey();
                long all = one.getValue();
                long gone = n == 0 ? 0
                    : all * chance(by.get(place), place, n, Math.max(0, straws - place - n)) / 1000000;
                likely[by.get(place)] += gone;
                next.merge(n, all - gone, Long::sum);
                if (n > 0) {
                    next.merge(n - 1, gone, Long::sum);
                }
            }
            mass = next;
        }
        return likely;
    }

    private long evenBy(List<Integer> by) {
        long[] likely = likelies(by, 0);
        return Arrays.stream(likely).max().getAsLong() - Arrays.stream(likely).min().getAsLong();
    }

    private static void orders(List<Integer> start, int n, List<List<Integer>> into) {
        if (start.size() == n) {
            into.add(start);
        }
        for (int d = 0; d < n; d++) {
            if (!start.contains(d)) {
                List<Integer> longer = new ArrayList<>(start);
                longer.add(d);
                orders(longer, n, into);
            }
        }
    }

    private static long lowest(long above, long below, int part) {
        BigInteger a = BigInteger.valueOf(above);
        BigInteger b = BigInteger.valueOf(below);
        return (part == 0 ? a : b).divide(a.gcd(b)).longValueExact();
    }

    // ---- the calls

    long drawer(int kind, int v) {
        if (kind < 0 || kind > 6) {
            return -1;
        }
        if (v < 0 || v > 9) {
            return -2;
        }
        if (drawers.size() == 6) {
            return -4;
        }
        Drawer d = made(kind);
        d.kind = kind;
        d.v = v;
        d.number = drawers.size();
        drawers.add(d);
        order.add(d.number);
        whole();
        return d.number;
    }

    long of(int drawer, int what) {
        if (!is(drawer)) {
            return -1;
        }
        Drawer d = drawers.get(drawer);
        int place = order.indexOf(drawer);
        switch (what) {
            case 0: return d.kind;
            case 1: return d.v;
            case 2: return d.sent;
            case 3: return place;
            case 4: return pull(drawer, place, shorts, longs);
            case 5: return chance(drawer, place, shorts, longs);
            default: return -1;
        }
    }

    long sent(int drawer, int n) {
        if (!is(drawer)) {
            return -1;
        }
        if (n < 0 || n > 999) {
            return -2;
        }
        int was = drawers.get(drawer).sent;
        drawers.get(drawer).sent = n;
        return was;
    }

    long row(int drawer, int part, int n) {
        if (!is(drawer) || part < 0 || part > 3) {
            return -1;
        }
        if (n < 0 || n > 9) {
            return -2;
        }
        if (drawers.get(drawer).kind != 6) {
            return -3;
        }
        int was = drawers.get(drawer).row[part];
        drawers.get(drawer).row[part] = n;
        return was;
    }

    long place(int drawer, int k) {
        if (!is(drawer) || !is(k)) {
            return -1;
        }
        int was = order.indexOf(drawer);
        order.remove(Integer.valueOf(drawer));
        order.add(k, drawer);
        whole();
        return was;
    }

    long feed(int sign) {
        if (sign < 0 || sign > 127) {
            return -2;
        }
        if (text.length() == 100) {
            return -4;
        }
        text.append((char) sign);
        return text.length();
    }

    long hut() {
        if (huts == 6) {
            return -4;
        }
        String told = text.toString();
        text.setLength(0);
        int fault = fault(told);
        if (fault >= 0) {
            return -10 - fault;
        }
        hut = told;
        whole();
        return huts++;
    }

    long told(int what) {
        switch (what) {
            case 0: return night;
            case 1: return shorts;
            case 2: return longs;
            case 3: return drawn;
            case 4: return drawers.isEmpty() ? -5 : order.get(drawn);
            default: return what >= 10 && is(what - 10) ? order.get(what - 10) : -1;
        }
    }

    long draw(int d) {
        if (d < 0 || d > 999999) {
            return -2;
        }
        if (drawers.isEmpty() || night == 9999) {
            return -3;
        }
        int who = order.get(drawn);
        long answer = who;
        if (d < chance(who, drawn, shorts, longs)) {
            shorts--;
            drawers.get(who).sent = Math.min(999, drawers.get(who).sent + 1);
            answer += 10;
        } else {
            longs--;
        }
        drawn++;
        if (shorts == 0 || drawn == drawers.size()) {
            answer += 100;
            night++;
            whole();
        }
        return answer;
    }

    long likely(int drawer) {
        return is(drawer) ? likelies(order, 0)[drawer] : -1;
    }

    long even() {
        return drawers.isEmpty() ? -5 : evenBy(order);
    }

    long best(int k) {
        if (k < -1 || k > 4) {
            return -1;
        }
        if (drawers.isEmpty()) {
            return -5;
        }
        if (drawers.size() > 5) {
            return -9;
        }
        List<List<Integer>> all = new ArrayList<>();
        orders(new ArrayList<>(), drawers.size(), all);
        List<Integer> best = all.get(0);
        long least = evenBy(best);
        for (List<Integer> one : all) {
            long even = evenBy(one);
            if (even < least) {
                least = even;
                best = one;
            }
        }
        return k == -1 ? least : k < best.size() ? best.get(k) : -5;
    }

    long safest(int drawer, int what) {
        if (!is(drawer) || what < 0 || what > 1) {
            return -1;
        }
        long place = -1;
        long least = Long.MAX_VALUE;
        for (int k = 0; k < drawers.size(); k++) {
            List<Integer> by = new ArrayList<>(order);
            by.remove(Integer.valueOf(drawer));
            by.add(k, drawer);
            long likely = likelies(by, 0)[drawer];
            if (likely < least) {
                least = likely;
                place = k;
            }
        }
        return what == 0 ? place : least;
    }

    long enough(int drawer, int q) {
        if (!is(drawer)) {
            return -1;
        }
        if (q < 0 || q > 1000000) {
            return -2;
        }
        int more = 0;
        while (more <= 20 && likelies(order, more)[drawer] > q) {
            more++;
        }
        return more <= 20 ? more : -5;
    }

    long leans() {
        int who = -5;
        for (int d = 0; d < drawers.size(); d++) {
            if (who < 0 || pull(d, 0, wholeShorts(), wholeLongs()) > pull(who, 0, wholeShorts(), wholeLongs())) {
                who = d;
            }
        }
        return who;
    }

    long coin(int p, int m, int part) {
        if (p < 1 || p > 99 || m < 1 || m > 16 || part < 0 || part > 1) {
            return NO;
        }
        int k = 0;
        while (1 << k < m) {
            k++;
        }
        long times = p == 50 ? 1 : 10000;
        return lowest(times * k * (1 << k), p == 50 ? m : (long) m * p * (100 - p), part);
    }

    long dice(int f, int m, int part) {
        if (f < 2 || f > 20 || m < 1 || m > 16 || part < 0 || part > 1) {
            return NO;
        }
        long all = 1;
        int k = 0;
        while (all < m) {
            k++;
            all *= f;
        }
        return lowest(k * all, all / m * m, part);
    }

    long turn() {
        int who = -5;
        for (int d : order) {
            if (who < 0 || drawers.get(d).sent < drawers.get(who).sent) {
                who = d;
            }
        }
        return who;
    }

    long uneven() {
        long all = drawers.stream().mapToLong(d -> d.sent).sum();
        return drawers.stream().mapToLong(d -> d.sent * (long) drawers.size() - all).map(x -> x * x).sum();
    }

    long most(int what) {
        if (what < 0 || what > 1) {
            return -1;
        }
        if (drawers.isEmpty()) {
            return -5;
        }
        int most = drawers.stream().mapToInt(d -> d.sent).max().getAsInt();
        int fewest = drawers.stream().mapToInt(d -> d.sent).min().getAsInt();
        int who = 0;
        while (drawers.get(who).sent < most) {
            who++;
        }
        return what == 0 ? who : most - fewest;
    }

    long see(int d, boolean isShort) {
        if (d == -1) {
            seen.clear();
            return 0;
        }
        if (d < 0 || d > 999999) {
            return -2;
        }
        if (seen.size() == 6) {
            return -4;
        }
        seen.add(new int[] {d, isShort ? 1 : 0});
        return seen.size();
    }

    long fits() {
        int bits = 0;
        for (int n = 1; n <= 3; n++) {
            int s = n;
            int l = Math.max(0, wholeLongs() + wholeShorts() - n);
            boolean isSo = true;
            for (int i = 0; i < seen.size() && isSo; i++) {
                isSo = s > 0 && i < order.size();
                if (isSo) {
                    int found = seen.get(i)[0] < chance(order.get(i), i, s, l) ? 1 : 0;
                    isSo = found == seen.get(i)[1];
                    s -= found;
                    l -= 1 - found;
                }
            }
            bits += isSo ? 1 << n : 0;
        }
        return bits;
    }

    long odds(int drawer, int part) {
        return is(drawer) && part >= 0 && part <= 1 ? lowest(likelies(order, 0)[drawer], 1000000, part) : NO;
    }

    long mean(int part) {
        if (part < 0 || part > 1 || drawers.isEmpty()) {
            return NO;
        }
        return lowest(Arrays.stream(likelies(order, 0)).sum(), 1000000, part);
    }

    long book(int d) {
        if (d == -1) {
            book.clear();
            return 0;
        }
        if (d < 0 || d > 999999) {
            return -2;
        }
        if (book.size() == 8) {
            return -4;
        }
        book.add(d);
        return book.size();
    }

    /** By a copy that really draws. */
    long looked() {
        Model other = new Model();
        copy(this, other);
        other.night = 0;
        other.whole();
        for (int i = 0; i < book.size() && !drawers.isEmpty(); i++) {
            if (other.draw(book.get(i)) / 10 % 10 == 1) {
                return i;
            }
        }
        return -5;
    }

    long judge(int tape, int i) {
        if (tape < 0 || tape > 5) {
            return -1;
        }
        if (tapes[tape] != null && !(tapes[tape] instanceof int[])) {
            return -12;
        }
        int[] row = tapes[tape] == null ? new int[0] : (int[]) tapes[tape];
        for (Drawer d : drawers) {
            long at = (long) i + d.number;
            if (i < 0 || at >= row.length) {
                return 100 + d.number;
            }
            if (row[(int) at] != d.sent) {
                return d.number;
            }
        }
        return -5;
    }

    long image() {
        kept = new Model();
        copy(this, kept);
        return drawers.size();
    }

    long undo() {
        if (kept == null) {
            return -3;
        }
        copy(kept, this);
        return drawers.size();
    }

    long act(int drawer, int act, int x) {
        trace = new ArrayList<>();
        if (!is(drawer) || act < 0 || act > 2) {
            return 0;
        }
        Drawer d = drawers.get(drawer);
        d.trace = trace;
        return act == 0 ? d.draws(x) : act == 1 ? d.shows(x) : d.tells(x);
    }

    long trace(int i) {
        return i >= 0 && i < 20 && i < trace.size() ? trace.get(i) : -1;
    }

    long taken(int drawer, int k) {
        if (k < 0 || k > 6) {
            return -2;
        }
        if (!is(drawer)) {
            return -11;
        }
        return isOne(drawers.get(drawer), k) ? drawers.get(drawer).kind : -12;
    }

    long count(int what) {
        int[] all = {drawers.size(), huts, seen.size(), book.size(), text.length(), trace.size()};
        return what >= 0 && what < 6 ? all[what] : -2;
    }

    long tape(int tape, int sort, int n) {
        if (tape < 0 || tape > 5) {
            return -1;
        }
        if (sort == -1) {
            tapes[tape] = null;
            return 1;
        }
        if (sort < -1 || sort > 4 || n > 60) {
            return -2;
        }
        if (n < 0) {
            return -14;
        }
        switch (sort) {
            case 0: tapes[tape] = new byte[n]; break;
            case 1: tapes[tape] = new short[n]; break;
            case 2: tapes[tape] = new int[n]; break;
            case 3: tapes[tape] = new long[n]; break;
            default: tapes[tape] = new boolean[n]; break;
        }
        return 1;
    }

    long item(int tape, int i, long v) {
        if (tape < 0 || tape > 5) {
            return -1;
        }
        Object row = tapes[tape];
        if (row == null) {
            return -11;
        }
        if (i < 0 || i >= java.lang.reflect.Array.getLength(row)) {
            return -13;
        }
        if (row instanceof byte[]) {
            ((byte[]) row)[i] = (byte) v;
        } else if (row instanceof short[]) {
            ((short[]) row)[i] = (short) v;
        } else if (row instanceof int[]) {
            ((int[]) row)[i] = (int) v;
        } else if (row instanceof long[]) {
            ((long[]) row)[i] = v;
        } else {
            ((boolean[]) row)[i] = v != 0;
        }
        return 1;
    }

    long read(int tape, int i) {
        if (tape < 0 || tape > 5 || tapes[tape] == null
            || i < 0 || i >= java.lang.reflect.Array.getLength(tapes[tape])) {
            return NO;
        }
        if (tapes[tape] instanceof boolean[]) {
            return ((boolean[]) tapes[tape])[i] ? 1 : 0;
        }
        return java.lang.reflect.Array.getLong(tapes[tape], i);
    }

    long shift(int tape, int i, int other, int j, int n) {
        if (tape < 0 || tape > 5 || other < 0 || other > 5) {
            return -1;
        }
        if (tapes[tape] == null || tapes[other] == null) {
            return -11;
        }
        if (tapes[tape].getClass() != tapes[other].getClass()) {
            return -12;
        }
        if (n < 0 || i < 0 || j < 0 || (long) i + n > java.lang.reflect.Array.getLength(tapes[tape])
            || (long) j + n > java.lang.reflect.Array.getLength(tapes[other])) {
            return -13;
        }
        long[] held = new long[n];
        for (int k = 0; k < n; k++) {
            held[k] = read(tape, i + k);
        }
        for (int k = 0; k < n; k++) {
            item(other, j + k, held[k]);
        }
        return n;
    }
}
