import java.util.ArrayDeque;
import java.util.ArrayList;
import java.util.Arrays;
import java.util.HashMap;
import java.util.HashSet;
import java.util.List;
import java.util.Map;
import java.util.NoSuchElementException;
import java.util.Random;
import java.util.Set;
import java.util.TreeSet;

/**
 * Drawn runs of calls, each answer compared with that of a second, slow and plain telling of the document.
 * The model shares no code with the class: texts are checked by patterns and by trying to go on,
 * the rule is worked out from its signs each time, nets are searched by listing.
 */
public final class ModelTest {
    private static final long THROWN = Long.MIN_VALUE;
    private static final int RUNS = 400;
    private static final int CALLS = 160;

    public static void main(String[] args) {
        int runs = args.length > 0 ? Integer.parseInt(args[0]) : RUNS;
        long first = args.length > 1 ? Long.parseLong(args[1]) : 1;
        Set<String> seen = new TreeSet<>();
        for (int i = 0; i < runs; i++) {
            if (!oneRun(first + i, seen)) {
                System.exit(1);
            }
        }
        if (seen.size() != 47) {
            System.out.println("not every call was drawn: " + seen);
            System.exit(1);
        }
        System.out.println("model: " + runs + " runs agree, " + seen.size() + " kinds of calls");
    }

    private static boolean oneRun(long seed, Set<String> seen) {
        Random random = new Random(seed);
        LockLetters real = new LockLetters();
        Model model = new Model();
        List<String> log = new ArrayList<>();
        Draws draws = new Draws(random, model);
        for (int i = 0; i < CALLS; i++) {
            for (Call call : draws.next()) {
                long got = ask(real, call);
                long want = model.ask(call);
                log.add(call + " = " + got);
                seen.add(call.name);
                String wrong = got != want ? "answered " + got + ", the model " + want : difference(real, model);
                if (wrong != null) {
                    System.out.println("seed " + seed + ": " + call + ": " + wrong);
                    for (String line : log) {
                        System.out.println("  " + line);
                    }
                    return false;
                }
            }
        }
        return true;
    }

    private static String difference(LockLetters real, Model model) {
        for (int what = -1; what <= 13; what++) {
            if (real.count(what) != model.count(what)) {
                return "count(" + what + ") is " + real.count(what) + ", of the model " + model.count(what);
            }
        }
        for (int i = 0; i < model.row.size(); i++) {
            if (real.row(i) != model.row.get(i)) {
                return "row(" + i + ") is " + real.row(i) + ", of the model " + model.row;
            }
        }
        for (int i = 0; i < model.now.levels.size(); i++) {
            if (real.basin(i, 0) != model.now.levels.get(i) || real.basin(i, 1) != model.now.marks.get(i)) {
                return "basin " + i + " is not as in the model";
            }
        }
        return null;
    }

    static final class Call {
        final String name;
        final int[] args;

        Call(String name, int... args) {
            this.name = name;
            this.args = args;
        }

        @Override public String toString() {
            return name + Arrays.toString(args);
        }
    }

    private static long ask(LockLetters x, Call c) {
        int[] a = Arrays.copyOf(c.args, 4);
        try {
            switch (c.name) {
                case "sign": return x.sign(a[0]);
                case "end": return x.end(a[0]) ? 1 : 0;
                case "basins": return x.basins();
                case "sluices": return x.sluices();
                case "rule": return x.rule();
                case "basin": return x.basin(a[0], a[1]);
                case "sluice": return x.sluice(a[0], a[1]);
                case "sheet": return x.sheet(a[0], a[1], a[2], a[3]);
                case "hours": return x.hours(a[0]);
                case "pours": return x.pours(a[0], a[1]);
                case "lets": return x.lets(a[0], a[1]);
                case "boats": return x.boats(a[0]);
                case "sticks": return x.sticks(a[0]);
                case "marks": return x.marks(a[0], a[1]);
                case "night": return x.night();
                case "undo": return x.undo();
                case "later": return x.later(a[0], a[1]);
                case "marked": return x.marked(a[0]);
                case "round": return x.round();
                case "still": return x.still();
                case "busiest": return x.busiest(a[0]);
                case "high": return x.high(a[0]);
                case "table": return x.table(a[0], a[1], a[2], a[3]);
                case "quarters": return x.quarters(a[0], a[1]);
                case "learns": return x.learns(a[0], a[1], a[2], a[3]);
                case "words": return x.words(a[0], a[1], a[2]);
                case "hears": return x.hears(a[0], a[1]);
                case "drought": return x.drought(a[0], a[1], a[2]);
                case "saw": return x.saw(a[0], a[1], a[2]);
                case "forget": return x.forget();
                case "fits": return x.fits();
                case "looks": return x.looks();
                case "needs": return x.needs(a[0], a[1]);
                case "reach": return x.reach(a[0]);
                case "way": return x.way(a[0], a[1]);
                case "cut": return x.cut(a[0], a[1]);
                case "ring": return x.ring();
                case "order": return x.order();
                case "locks": return x.locks(a[0], a[1]);
                case "spoils": return x.spoils(a[0], a[1], a[2]);
                case "rests": return x.rests(a[0]);
                case "law": return x.law();
                case "years": return x.years(a[0], a[1]);
                case "keep": return x.keep(a[0]) ? 1 : 0;
                case "again": return x.again(a[0]) ? 1 : 0;
                case "count": return x.count(a[0]);
                case "row": return x.row(a[0]);
                default: throw new AssertionError(c.name);
            }
        } catch (NoSuchElementException e) {
            return THROWN;
        }
    }

    /** Draws calls that mostly can be done, and some that can't. */
    static final class Draws {
        final Random random;
        final Model model;

        Draws(Random random, Model model) {
            this.random = random;
            this.model = model;
        }

        int upTo(int n) {
            return random.nextInt(n + 1);
        }

        int in(int low, int top) {
            int odd = random.nextInt(40);
            return odd == 0 ? low - 1 : odd == 1 ? top + 1 : odd == 2 ? random.nextInt() : low + random.nextInt(top - low + 1);
        }

        int basin() {
            int n = model.now.levels.size();
            return random.nextInt(15) == 0 || n == 0 ? random.nextInt(9) - 1 : random.nextInt(n);
        }

        int sluice() {
            int n = model.now.from.size();
            return random.nextInt(15) == 0 || n == 0 ? random.nextInt(11) - 1 : random.nextInt(n);
        }

        int drawnSoFar;

        List<Call> next() {
            drawnSoFar++;
            if (drawnSoFar <= 2 && random.nextInt(10) != 0) {
                return drawnSoFar == 1 ? told("basins", basinText()) : told("sluices", sluiceText());
            }
            switch (random.nextInt(50)) {
                case 0: return told("basins", basinText());
                case 1: return told("sluices", sluiceText());
                case 2: return told("rule", ruleText());
                case 3: return told("law", ruleText());
                case 4: return told("night", nightText());
                case 5: return List.of(new Call("basin", basin(), in(0, 4)));
                case 6: return List.of(new Call("sluice", sluice(), in(0, 5)));
                case 7: return List.of(new Call("sheet", in(0, 3), in(0, 6), random.nextInt(4) == 0 ? random.nextInt() : random.nextInt(300) - 5, in(-3, 300)));
                case 8: case 9: return List.of(new Call("hours", random.nextInt(3) == 0 ? in(0, 60) : upTo(3)));
                case 10: case 11: return List.of(new Call("pours", basin(), in(1, 9)));
                case 12: return List.of(new Call("lets", basin(), in(1, 9)));
                case 13: return List.of(new Call("boats", sluice()));
                case 14: return List.of(new Call("sticks", sluice()));
                case 15: return List.of(new Call("marks", basin(), in(0, 9)));
                case 16: case 17: return List.of(new Call("undo"));
                case 18: return List.of(new Call("later", basin(), in(0, 99)));
                case 19: return List.of(new Call("marked", basin()));
                case 20: return List.of(new Call("round"));
                case 21: return List.of(new Call("still"));
                case 22: return List.of(new Call("busiest", in(1, 99)));
                case 23: return List.of(new Call("high", in(0, 99)));
                case 24: return List.of(new Call("table", basin(), basin(), basin(), in(0, 40)));
                case 25: return List.of(new Call("quarters", in(0, 15), in(0, 40)));
                case 26: return List.of(new Call("learns", basin(), basin(), basin(), in(0, 15)));
                case 27: return List.of(new Call("words", basin(), basin(), in(0, 40)));
                case 28: return List.of(new Call("hears", basin(), in(0, 40)));
                case 29: return List.of(new Call("drought", basin(), basin(), in(0, 40)));
                case 30: return List.of(sawSomething());
                case 31: return List.of(new Call("saw", basin(), in(0, 20), in(0, 9)));
                case 32: return List.of(new Call("forget"));
                case 33: return List.of(new Call("fits"));
                case 34: return List.of(new Call("looks"));
                case 35: return List.of(new Call("needs", basin(), in(0, 40)));
                case 36: return List.of(new Call("reach", basin()));
                case 37: return List.of(new Call("way", basin(), basin()));
                case 38: return List.of(new Call("cut", basin(), basin()));
                case 39: return List.of(new Call("ring"));
                case 40: return List.of(new Call("order"));
                case 41: return List.of(new Call("locks", in(0, 20), in(0, 20)));
                case 42: return List.of(new Call("spoils", in(1, 12), in(1, 12), in(0, 10)));
                case 43: return List.of(new Call("rests", in(0, 20)));
                case 44: return List.of(new Call("years", random.nextInt(), in(1, 60)));
                case 45: return List.of(new Call("keep", in(0, 1)));
                case 46: return List.of(new Call("again", in(0, 1)));
                case 47: return List.of(new Call("count", in(0, 12)));
                case 48: return List.of(new Call("row", in(0, 3)));
                default: return random.nextBoolean() ? List.of(new Call("sign", random.nextInt())) : List.of(new Call("end", in(0, 12)));
            }
        }

        /** Something that is so with some sluice stuck, so that what was seen fits at times. */
        Call sawSomething() {
            int b = basin();
            int n = upTo(20);
            if (b < 0 || b >= model.now.levels.size()) {
                return new Call("saw", b, n, 0);
            }
            Town t = model.now.copy();
            int s = sluice();
            if (s >= 0 && s < t.from.size()) {
                t.stuck.add(s);
            }
            return new Call("saw", b, n, t.after(n).levels.get(b));
        }

        List<Call> told(String name, String text) {
            List<Call> calls = new ArrayList<>();
            if (random.nextInt(12) != 0) {
                calls.add(new Call("end", 0));
            }
            StringBuilder s = new StringBuilder(random.nextInt(6) == 0 ? spoiled(text) : text);
            if (s.length() > 80) {
                s.setLength(80);
            }
            int length = s.length();
            while (s.length() % 4 != 0) {
                s.append((char) random.nextInt(256));
            }
            for (int i = 0; i < s.length(); i += 4) {
                calls.add(new Call("sign", s.charAt(i) << 24 | s.charAt(i + 1) << 16 | s.charAt(i + 2) << 8 | s.charAt(i + 3)));
            }
            calls.add(new Call("end", length));
            calls.add(new Call(name));
            return calls;
        }

        String spoiled(String text) {
            String signs = "0123456789abmkstngwplbk()<>=+-*/;.!";
            StringBuilder s = new StringBuilder(text);
            int p = upTo(s.length());
            switch (random.nextInt(4)) {
                case 0: s.insert(p, signs.charAt(random.nextInt(signs.length()))); break;
                case 1: s.insert(p, (char) random.nextInt(256)); break;
                case 2: s.setLength(p); break;
                default:
                    if (p < s.length()) {
                        s.setCharAt(p, signs.charAt(random.nextInt(signs.length())));
                    }
            }
            return s.toString();
        }

        String basinText() {
            int lines = random.nextInt(8) == 0 ? upTo(8) : drawnSoFar == 1 ? 2 + upTo(4) : upTo(2);
            StringBuilder s = new StringBuilder();
            for (int i = 0; i < lines; i++) {
                s.append(i > 0 ? ";" : "").append(upTo(9)).append(upTo(9)).append(random.nextInt(3) == 0 ? '!' : '.');
            }
            return s.toString();
        }

        String sluiceText() {
            int lines = random.nextInt(8) == 0 ? upTo(10) : drawnSoFar == 2 ? 1 + upTo(7) : upTo(3);
            int n = Math.max(2, model.now.levels.size());
            StringBuilder s = new StringBuilder();
            for (int i = 0; i < lines; i++) {
                int a = random.nextInt(n);
                int b = random.nextInt(30) == 0 ? a : (a + 1 + random.nextInt(n - 1)) % n;
                s.append(i > 0 ? ";" : "").append(a).append(b).append("gws".charAt(random.nextInt(3)));
            }
            return s.toString();
        }

        String ruleText() {
            if (random.nextInt(8) == 0) {
                return "";
            }
            String s = expression(0);
            for (int i = 0; i < 20 && s.length() > 40 && random.nextInt(5) != 0; i++) {
                s = expression(0);
            }
            return s;
        }

        String expression(int depth) {
            String s = sum(depth);
            return random.nextInt(4) == 0 ? s + "<>=".charAt(random.nextInt(3)) + sum(depth) : s;
        }

        String sum(int depth) {
            StringBuilder s = new StringBuilder(thing(depth));
            while (random.nextInt(5) < 2) {
                s.append("+-*/".charAt(random.nextInt(4))).append(thing(depth));
            }
            return s.toString();
        }

        String thing(int depth) {
            StringBuilder s = new StringBuilder();
            while (random.nextInt(8) == 0) {
                s.append('-');
            }
            int what = random.nextInt(8);
            if (what < 2) {
                return s.append(random.nextInt(6) == 0 ? upTo(999) : upTo(9)).toString();
            }
            boolean deeper = what == 2 && (depth < 4 || random.nextInt(5) == 0);
            return deeper ? s + "(" + expression(depth + 1) + ")" : s.append("abmkstn".charAt(random.nextInt(7))).toString();
        }

        String nightText() {
            StringBuilder s = new StringBuilder();
            int acts = random.nextInt(10) == 0 ? 15 + upTo(15) : upTo(6);
            for (int i = 0; i < acts; i++) {
                char kind = "nplbkm".charAt(random.nextInt(6));
                int who = Math.max(0, Math.min(9, kind == 'n' ? upTo(9) : kind == 'b' || kind == 'k' ? sluice() : basin()));
                s.append(kind).append(who);
                if (kind == 'p' || kind == 'l') {
                    s.append(1 + random.nextInt(random.nextInt(8) == 0 ? 9 : 3));
                } else if (kind == 'm') {
                    s.append(upTo(9));
                }
            }
            return s.toString();
        }
    }

    /** All that hours change, and what they go by. */
    static final class Town {
        List<Integer> levels = new ArrayList<>();
        List<Integer> marks = new ArrayList<>();
        Set<Integer> leaking = new HashSet<>();
        List<Integer> from = new ArrayList<>();
        List<Integer> to = new ArrayList<>();
        StringBuilder kinds = new StringBuilder();
        Set<Integer> on = new HashSet<>();
        Set<Integer> stuck = new HashSet<>();
        int hour;
        int lost;
        String rule = "";
        Map<Integer, Integer> through = new HashMap<>();
        int leaked;

        Town copy() {
            Town t = new Town();
            t.levels = new ArrayList<>(levels);
            t.marks = new ArrayList<>(marks);
            t.leaking = new HashSet<>(leaking);
            t.from = new ArrayList<>(from);
            t.to = new ArrayList<>(to);
            t.kinds = new StringBuilder(kinds);
            t.on = new HashSet<>(on);
            t.stuck = new HashSet<>(stuck);
            t.hour = hour;
            t.lost = lost;
            t.rule = rule;
            return t;
        }

        /** As undo() brings it back: what was told stays. */
        void back(Town t) {
            levels = new ArrayList<>(t.levels);
            marks = new ArrayList<>(t.marks);
            on = new HashSet<>(t.on);
            stuck = new HashSet<>(t.stuck);
            hour = t.hour;
            lost = t.lost;
        }

        Town after(int n) {
            Town t = copy();
            for (int i = 0; i < n; i++) {
                t.hourGoesBy();
            }
            return t;
        }

        int flow(int s) {
            int a = levels.get(from.get(s));
            int b = levels.get(to.get(s));
            Map<Character, Integer> things = new HashMap<>();
            things.put('a', a);
            things.put('b', b);
            things.put('m', marks.get(from.get(s)));
            things.put('k', marks.get(to.get(s)));
            things.put('s', s);
            things.put('t', "gws".indexOf(kinds.charAt(s)));
            things.put('n', hour % 4);
            int v = new Worked(rule.isEmpty() ? "1+(a-b>4)" : rule, things).all();
            return Math.min(Math.min(a, 9 - b), Math.max(v, 0));
        }

        boolean opens(int s) {
            int a = levels.get(from.get(s));
            int m = marks.get(from.get(s));
            switch (kinds.charAt(s)) {
                case 'g': return a > levels.get(to.get(s));
                case 'w': return a > m;
                default:
                    if (a >= m) {
                        on.add(s);
                    }
                    if (a == 0) {
                        on.remove(s);
                    }
                    return on.contains(s);
            }
        }

        void hourGoesBy() {
            for (int s = 0; s < from.size(); s++) {
                if (!stuck.contains(s) && opens(s)) {
                    int f = flow(s);
                    levels.set(from.get(s), levels.get(from.get(s)) - f);
                    levels.set(to.get(s), levels.get(to.get(s)) + f);
                    through.merge(s, f, Integer::sum);
                }
            }
            for (int b : leaking) {
                if (levels.get(b) > 0) {
                    levels.set(b, levels.get(b) - 1);
                    leaked++;
                    lost = lost == 9999 ? 9999 : lost + 1;
                }
            }
            hour++;
        }

        int gone() {
            return through.values().stream().mapToInt(i -> i).sum();
        }

        int together() {
            return levels.stream().mapToInt(i -> i).sum();
        }

        boolean atMark(int b) {
            return levels.get(b) >= marks.get(b);
        }

        boolean boat(int s) {
            int a = from.get(s);
            int b = to.get(s);
            if (levels.get(a) < 1 || levels.get(b) > 8) {
                return false;
            }
            levels.set(a, levels.get(a) - 1);
            levels.set(b, levels.get(b) + 1);
            return true;
        }

        String all() {
            return levels + " " + new TreeSet<>(on) + " " + hour % 4;
        }
    }

    /** Works a rule out from its signs; wrong texts end in an IllegalArgumentException. */
    static final class Worked {
        final String text;
        final Map<Character, Integer> things;
        int p = 0;

        Worked(String text, Map<Character, Integer> things) {
            this.text = text;
            this.things = things;
        }

        static boolean isRule(String text) {
            try {
                Map<Character, Integer> zeros = new HashMap<>();
                for (char c : "abmkstn".toCharArray()) {
                    zeros.put(c, 0);
                }
                new Worked(text, zeros).all();
                return true;
            } catch (IllegalArgumentException e) {
                return false;
            }
        }

        char ahead() {
            return p < text.length() ? text.charAt(p) : '$';
        }

        int all() {
            int v = expression(0);
            if (p < text.length()) {
                throw new IllegalArgumentException();
            }
            return v;
        }

        int expression(int depth) {
            int v = sum(depth);
            char c = ahead();
            if ("<>=".indexOf(c) < 0) {
                return v;
            }
            p++;
            int w = sum(depth);
            return (c == '<' ? v < w : c == '>' ? v > w : v == w) ? 1 : 0;
        }

        int sum(int depth) {
            int v = product(depth);
            while (ahead() == '+' || ahead() == '-') {
                boolean plus = text.charAt(p++) == '+';
                int w = product(depth);
                v = plus ? v + w : v - w;
            }
            return v;
        }

        int product(int depth) {
            int v = factor(depth);
            while (ahead() == '*' || ahead() == '/') {
                boolean times = text.charAt(p++) == '*';
                int w = factor(depth);
                v = times ? v * w : w == 0 ? 0 : v / w;
            }
            return v;
        }

        int factor(int depth) {
            if (ahead() == '-') {
                p++;
                return -factor(depth);
            }
            if (ahead() == '(') {
                if (depth == 4) {
                    throw new IllegalArgumentException();
                }
                p++;
                int v = expression(depth + 1);
                if (ahead() != ')') {
                    throw new IllegalArgumentException();
                }
                p++;
                return v;
            }
            if (things.containsKey(ahead())) {
                return things.get(text.charAt(p++));
            }
            int start = p;
            while ("0123456789".indexOf(ahead()) >= 0 && p - start < 3) {
                p++;
            }
            if (p == start) {
                throw new IllegalArgumentException();
            }
            return Integer.parseInt(text.substring(start, p));
        }
    }

    /** The document, told once more. */
    static final class Model {
        String text = "";
        Town now = new Town();
        List<Long> row = new ArrayList<>();
        ArrayDeque<Town> past = new ArrayDeque<>();
        Town[] kept = new Town[2];
        List<int[]> seen = new ArrayList<>();

        boolean isBasin(int... all) {
            return Arrays.stream(all).allMatch(b -> b >= 0 && b < now.levels.size());
        }

        boolean isSluice(int s) {
            return s >= 0 && s < now.from.size();
        }

        static boolean within(int v, int low, int top) {
            return v >= low && v <= top;
        }

        void tell(long... numbers) {
            row.clear();
            for (long n : numbers) {
                row.add(n);
            }
        }

        static long bits(Iterable<Integer> set) {
            long b = 0;
            for (int i : set) {
                b |= 1L << i;
            }
            return b;
        }

        String take() {
            String s = text;
            text = "";
            return s;
        }

        long count(int what) {
            switch (what) {
                case 0: return now.levels.size();
                case 1: return now.from.size();
                case 2: return now.hour;
                case 3: return now.lost;
                case 4: return now.together();
                case 5: return now.marks.stream().mapToInt(i -> i).sum();
                case 6: return bits(now.on);
                case 7: return bits(now.stuck);
                case 8: {
                    long b = 0;
                    for (int i = 0; i < now.levels.size(); i++) {
                        b += now.atMark(i) ? Math.round(Math.pow(2, i)) : 0;
                    }
                    return b;
                }
                case 9: return seen.size();
                case 10: return past.size();
                case 11: return row.size();
                case 12: return text.length();
                default: return -1;
            }
        }

        long ask(Call c) {
            int[] a = Arrays.copyOf(c.args, 4);
            switch (c.name) {
                case "sign": return sign(a[0]);
                case "end":
                    if (!within(a[0], 0, text.length())) {
                        return 0;
                    }
                    text = text.substring(0, a[0]);
                    return 1;
                case "basins": return basins(take());
                case "sluices": return sluices(take());
                case "rule": {
                    String t = take();
                    int wrong = wrongRule(t);
                    now.rule = wrong < 0 ? t : now.rule;
                    return wrong < 0 ? 0 : -1 - wrong;
                }
                case "basin": return basin(a[0], a[1]);
                case "sluice": return sluice(a[0], a[1]);
                case "sheet": return sheet(a[0], a[1], a[2], a[3]);
                case "hours": {
                    if (!within(a[0], 0, 60)) {
                        return -1;
                    }
                    Town was = now.copy();
                    long answer = hours(a[0]);
                    if (a[0] > 0) {
                        push(was);
                    }
                    return answer;
                }
                case "pours": return undoable(() -> pours(a[0], a[1]));
                case "lets": return undoable(() -> lets(a[0], a[1]));
                case "boats": return undoable(() -> boats(a[0]));
                case "sticks": return undoable(() -> sticks(a[0]));
                case "marks": return undoable(() -> marks(a[0], a[1]));
                case "night": return night(take());
                case "undo":
                    if (past.isEmpty()) {
                        return -1;
                    }
                    now.back(past.removeLast());
                    return past.size();
                case "keep":
                    if (!within(a[0], 0, 1)) {
                        return 0;
                    }
                    kept[a[0]] = now.copy();
                    return 1;
                case "again":
                    if (!within(a[0], 0, 1) || kept[a[0]] == null || kept[a[0]].levels.size() != now.levels.size() || kept[a[0]].from.size() != now.from.size()) {
                        return 0;
                    }
                    now.back(kept[a[0]]);
                    past.clear();
                    return 1;
                case "count": return count(a[0]);
                case "row": return within(a[0], 0, row.size() - 1) ? row.get(a[0]) : THROWN;
                default: return question(c.name, a);
            }
        }

        long question(String name, int[] a) {
            switch (name) {
                case "later":
                    if (!isBasin(a[0]) || !within(a[1], 0, 99)) {
                        return -1;
                    }
                    tell(now.after(a[1]).together(), bits(now.after(a[1]).on));
                    return now.after(a[1]).levels.get(a[0]);
                case "marked": return marked(a[0]);
                case "round": return round();
                case "still": return still();
                case "busiest": return busiest(a[0]);
                case "high": return high(a[0]);
                case "table": {
                    if (!isBasin(a[0], a[1], a[2]) || a[0] == a[1] || !within(a[3], 0, 40)) {
                        return -1;
                    }
                    long[] levels = new long[4];
                    long bits = table(a[0], a[1], a[2], a[3], levels);
                    tell(levels);
                    return bits;
                }
                case "quarters": return quarters(a[0], a[1]);
                case "learns": return learns(a[0], a[1], a[2], a[3]);
                case "words": {
                    if (!isBasin(a[0], a[1]) || a[0] == a[1] || !within(a[2], 0, 40)) {
                        return -1;
                    }
                    long[] w = words(a[0], a[1], a[2]);
                    tell(w);
                    return Arrays.stream(w).distinct().count();
                }
                case "hears": return hears(a[0], a[1]);
                case "drought": return drought(a[0], a[1], a[2]);
                case "saw":
                    if (!isBasin(a[0]) || !within(a[1], 0, 20) || !within(a[2], 0, 9) || seen.size() == 10) {
                        return -1;
                    }
                    seen.add(new int[] {a[0], a[1], a[2]});
                    return seen.size();
                case "forget": {
                    int n = seen.size();
                    seen.clear();
                    return n;
                }
                case "fits": {
                    List<Integer> f = fitting();
                    tell(f.size(), asSeen(now) ? 1 : 0);
                    return bits(f);
                }
                case "looks": return looks();
                case "needs": return needs(a[0], a[1]);
                case "reach": {
                    if (!isBasin(a[0])) {
                        return -1;
                    }
                    Set<Integer> r = reached(a[0], now.stuck, new HashSet<>());
                    tell(r.size());
                    return bits(r);
                }
                case "way": return way(a[0], a[1]);
                case "cut": return cut(a[0], a[1]);
                case "ring": return ring();
                case "order": return order();
                case "locks": return locks(a[0], a[1]);
                case "spoils": return spoils(a[0], a[1], a[2]);
                case "rests": return rests(a[0]);
                case "law": return law(take());
                case "years": return years(a[0], a[1]);
                default: throw new AssertionError(name);
            }
        }

        long sign(int v) {
            if (text.length() + 4 > 80) {
                return -1;
            }
            for (byte b : java.nio.ByteBuffer.allocate(4).putInt(v).array()) {
                text += (char) (b & 255);
            }
            return text.length();
        }

        /** The first place at which a text of lines is wrong, or -1. */
        static int wrongLine(String t, String line, int longest, int room) {
            if (t.isEmpty()) {
                return -1;
            }
            java.util.regex.Pattern whole = java.util.regex.Pattern.compile(line + "(;" + line + ")*", java.util.regex.Pattern.DOTALL);
            int wrong = -1;
            for (int n = 1; n <= t.length() && wrong < 0; n++) {
                java.util.regex.Matcher m = whole.matcher(t.substring(0, n));
                if (!m.matches() && !m.hitEnd()) {
                    wrong = n - 1;
                }
            }
            if (wrong < 0 && !whole.matcher(t).matches()) {
                wrong = t.length();
            }
            if (t.length() > longest && (wrong < 0 || wrong > longest)) {
                wrong = longest;
            }
            int over = 4 * room;
            if (t.length() > over && (wrong < 0 || wrong > over)) {
                wrong = over;
            }
            return wrong;
        }

        long basins(String t) {
            int wrong = wrongLine(t, "[0-9][0-9][.!]", 23, 6 - now.levels.size());
            if (wrong >= 0) {
                return -1 - wrong;
            }
            if (t.isEmpty()) {
                return 0;
            }
            for (String line : t.split(";")) {
                if (line.charAt(2) == '!') {
                    now.leaking.add(now.levels.size());
                }
                now.levels.add(Character.digit(line.charAt(0), 10));
                now.marks.add(Character.digit(line.charAt(1), 10));
            }
            past.clear();
            return t.split(";").length;
        }

        long sluices(String t) {
            int n = now.levels.size();
            // A sign above 255 never comes: the first digit stands though no second one could.
            String pairs = "\u0100";
            for (int i = 0; i < n; i++) {
                StringBuilder others = new StringBuilder("\u0100");
                for (int j = 0; j < n; j++) {
                    others.append(j == i ? "" : "|" + j);
                }
                pairs += "|" + i + "(" + others + ")";
            }
            int wrong = wrongLine(t, "(" + pairs + ")[gws]", 31, 8 - now.from.size());
            if (wrong >= 0) {
                return -1 - wrong;
            }
            if (t.isEmpty()) {
                return 0;
            }
            for (String line : t.split(";")) {
                now.from.add(line.charAt(0) - '0');
                now.to.add(line.charAt(1) - '0');
                now.kinds.append(line.charAt(2));
            }
            past.clear();
            return t.split(";").length;
        }

        /** The first place at which a rule is wrong, or -1: no text that begins so far can be made a rule. */
        static int wrongRule(String t) {
            if (t.isEmpty()) {
                return -1;
            }
            for (int n = 1; n <= Math.min(40, t.length()); n++) {
                boolean goesOn = false;
                for (String more : new String[] {"", "0"}) {
                    for (String shut : new String[] {"", ")", "))", ")))", "))))"}) {
                        goesOn |= Worked.isRule(t.substring(0, n) + more + shut);
                    }
                }
                if (!goesOn) {
                    return n - 1;
                }
            }
            return t.length() > 40 ? 40 : Worked.isRule(t) ? -1 : t.length();
        }

        long basin(int b, int what) {
            if (!isBasin(b) || !within(what, 0, 4)) {
                return THROWN;
            }
            List<Integer> out = new ArrayList<>();
            List<Integer> in = new ArrayList<>();
            for (int s = 0; s < now.from.size(); s++) {
                (now.from.get(s) == b ? out : now.to.get(s) == b ? in : new ArrayList<Integer>()).add(s);
            }
            return new long[] {now.levels.get(b), now.marks.get(b), now.leaking.contains(b) ? 1 : 0, bits(out), bits(in)}[what];
        }

        long sluice(int s, int what) {
            if (!isSluice(s) || !within(what, 0, 5)) {
                return THROWN;
            }
            return new long[] {now.from.get(s), now.to.get(s), "gws".indexOf(now.kinds.charAt(s)), now.on.contains(s) ? 1 : 0, now.stuck.contains(s) ? 1 : 0, now.flow(s)}[what];
        }

        long sheet(int kind, int n, int f, int step) {
            if (!within(kind, 0, 3) || n > 6) {
                return -1;
            }
            if (kind == 3) {
                for (int i = 0; i < now.levels.size(); i++) {
                    now.levels.set(i, 0);
                }
                return -3;
            }
            if (n < 0) {
                return -2;
            }
            int v = f;
            for (int i = 0; i < now.levels.size(); i++) {
                int e = kind == 0 ? (byte) v : kind == 1 ? (short) v : v;
                now.levels.set(i, i >= n || e < 0 ? 0 : Math.min(e, 9));
                v += step;
            }
            return now.together();
        }

        interface Act {
            long done();
        }

        void push(Town was) {
            past.addLast(was);
            if (past.size() > 12) {
                past.removeFirst();
            }
        }

        long undoable(Act act) {
            Town was = now.copy();
            long answer = act.done();
            if (answer >= 0) {
                push(was);
            }
            return answer;
        }

        long hours(int n) {
            Town then = now.after(n);
            now.back(then);
            tell(then.gone(), then.leaked);
            return now.together();
        }

        long pours(int b, int n) {
            if (!isBasin(b) || !within(n, 1, 9)) {
                return -1;
            }
            int then = now.levels.get(b) + n;
            if (then > 9) {
                return -2;
            }
            now.levels.set(b, then);
            return then;
        }

        long lets(int b, int n) {
            if (!isBasin(b) || !within(n, 1, 9)) {
                return -1;
            }
            int then = now.levels.get(b) - n;
            if (then < 0) {
                return -2;
            }
            now.levels.set(b, then);
            return then;
        }

        long boats(int s) {
            return !isSluice(s) ? -1 : now.boat(s) ? now.levels.get(now.to.get(s)) : -2;
        }

        long sticks(int s) {
            if (!isSluice(s)) {
                return -1;
            }
            if (!now.stuck.add(s)) {
                now.stuck.remove(s);
            }
            return bits(now.stuck);
        }

        long marks(int b, int v) {
            if (!isBasin(b) || !within(v, 0, 9)) {
                return -1;
            }
            int was = now.marks.set(b, v);
            return was == v ? -2 : 10 + was;
        }

        long night(String t) {
            String acts = "(n[0-9]|[pl][0-9][1-9]|[bk][0-9]|m[0-9][0-9])*";
            java.util.regex.Pattern whole = java.util.regex.Pattern.compile(acts, java.util.regex.Pattern.DOTALL);
            for (int n = 1; n <= Math.min(60, t.length()); n++) {
                java.util.regex.Matcher m = whole.matcher(t.substring(0, n));
                if (!m.matches() && !m.hitEnd()) {
                    return -n;
                }
            }
            if (t.length() > 60) {
                return -61;
            }
            if (!whole.matcher(t).matches()) {
                return -1 - t.length();
            }
            Town was = now.copy();
            java.util.regex.Matcher m = java.util.regex.Pattern.compile("[a-z][0-9]+").matcher(t);
            int done = 0;
            long answer = 0;
            while (m.find()) {
                String act = m.group();
                int x = act.charAt(1) - '0';
                int y = act.charAt(act.length() - 1) - '0';
                switch (act.charAt(0)) {
                    case 'n': answer = hours(x); break;
                    case 'p': answer = pours(x, y); break;
                    case 'l': answer = lets(x, y); break;
                    case 'b': answer = boats(x); break;
                    case 'k': answer = sticks(x); break;
                    default: answer = marks(x, y);
                }
                if (answer < 0) {
                    break;
                }
                done++;
            }
            if (done > 0) {
                push(was);
            }
            tell(answer < 0 ? 1 : 0, now.together());
            return done;
        }

        long marked(int b) {
            if (!isBasin(b)) {
                return -1;
            }
            List<Integer> when = new ArrayList<>();
            Town t = now;
            for (int h = 0; h < 100; h++) {
                if (t.atMark(b)) {
                    when.add(h);
                }
                t = t.after(1);
            }
            if (when.isEmpty()) {
                return -2;
            }
            tell(when.size());
            return when.get(0);
        }

        long round() {
            Map<String, Integer> first = new HashMap<>();
            List<Integer> sums = new ArrayList<>();
            Town t = now;
            for (int h = 0; h <= 99; h++) {
                Integer was = first.putIfAbsent(t.all(), h);
                if (was != null) {
                    tell(was, new HashSet<>(sums.subList(was, h)).size());
                    return h;
                }
                sums.add(t.together());
                t = t.after(1);
            }
            return -2;
        }

        long still() {
            Town t = now;
            for (int h = 0; h <= 96; h++) {
                boolean same = true;
                Town u = t;
                for (int i = 0; i < 4; i++) {
                    u = u.after(1);
                    same &= u.levels.equals(t.levels);
                }
                if (same) {
                    tell(t.together());
                    return h;
                }
                t = t.after(1);
            }
            return -2;
        }

        long busiest(int n) {
            if (!within(n, 1, 99)) {
                return -1;
            }
            if (now.from.isEmpty()) {
                return -2;
            }
            Town t = now.after(n);
            int most = -1;
            int best = -1;
            for (int s = 0; s < t.from.size(); s++) {
                int f = t.through.getOrDefault(s, 0);
                if (f > most) {
                    most = f;
                    best = s;
                }
            }
            tell(most, t.gone());
            return best;
        }

        long high(int n) {
            if (!within(n, 0, 99)) {
                return -1;
            }
            if (now.levels.isEmpty()) {
                return -2;
            }
            int top = -1;
            Town t = now;
            for (int h = 0; h <= n; h++) {
                for (int b = 0; b < t.levels.size(); b++) {
                    if (t.levels.get(b) > top) {
                        top = t.levels.get(b);
                        tell(b, h);
                    }
                }
                t = t.after(1);
            }
            return top;
        }

        Town put(Town t, int b, int level) {
            Town u = t.copy();
            u.levels.set(b, level);
            return u;
        }

        long table(int a, int b, int c, int n, long[] levels) {
            long bits = 0;
            int i = 0;
            for (int y : new int[] {0, 9}) {
                for (int x : new int[] {0, 9}) {
                    Town t = put(put(now, a, x), b, y).after(n);
                    bits += t.atMark(c) ? 1 << i : 0;
                    levels[i++] = t.levels.get(c);
                }
            }
            return bits;
        }

        long quarters(int t, int n) {
            if (!within(t, 0, 15) || !within(n, 0, 40)) {
                return -1;
            }
            tell();
            int found = 0;
            int size = now.levels.size();
            for (int a = 0; a < size; a++) {
                for (int b = a + 1; b < size; b++) {
                    for (int c = 0; c < size; c++) {
                        if (table(a, b, c, n, new long[4]) == t && found++ == 0) {
                            tell(a, b, c);
                        }
                    }
                }
            }
            return found;
        }

        long learns(int a, int b, int c, int t) {
            if (!isBasin(a, b, c) || a == b || !within(t, 0, 15)) {
                return -1;
            }
            List<Integer> when = new ArrayList<>();
            for (int h = 0; h <= 40; h++) {
                if (table(a, b, c, h, new long[4]) == t) {
                    when.add(h);
                }
            }
            if (when.isEmpty()) {
                return -2;
            }
            tell(when.size());
            return when.get(0);
        }

        long[] words(int a, int b, int n) {
            long[] w = new long[10];
            for (int v = 0; v < 10; v++) {
                w[v] = put(now, a, v).after(n).levels.get(b);
            }
            return w;
        }

        long hears(int a, int n) {
            if (!isBasin(a) || !within(n, 0, 40)) {
                return -1;
            }
            long most = 0;
            int best = -2;
            for (int b = 0; b < now.levels.size(); b++) {
                long heard = b == a ? 0 : Arrays.stream(words(a, b, n)).distinct().count();
                if (heard > most) {
                    most = heard;
                    best = b;
                }
            }
            if (best >= 0) {
                tell(most);
            }
            return best;
        }

        long drought(int a, int b, int n) {
            if (!isBasin(a, b) || !within(n, 0, 40)) {
                return -1;
            }
            List<Integer> by = new ArrayList<>();
            for (int v = 0; v < 10; v++) {
                if (put(now, a, v).after(n).atMark(b)) {
                    by.add(v);
                }
            }
            if (by.isEmpty()) {
                return -2;
            }
            tell(by.size());
            return by.get(0);
        }

        boolean asSeen(Town t) {
            for (int[] s : seen) {
                if (t.after(s[1]).levels.get(s[0]) != s[2]) {
                    return false;
                }
            }
            return true;
        }

        Town stuckToo(int s) {
            Town t = now.copy();
            t.stuck.add(s);
            return t;
        }

        List<Integer> fitting() {
            List<Integer> f = new ArrayList<>();
            for (int s = 0; s < now.from.size(); s++) {
                if (!now.stuck.contains(s) && asSeen(stuckToo(s))) {
                    f.add(s);
                }
            }
            return f;
        }

        long looks() {
            List<Integer> f = fitting();
            if (f.isEmpty() || now.levels.isEmpty()) {
                return -2;
            }
            int best = -1;
            int fewest = 99;
            for (int b = 0; b < now.levels.size(); b++) {
                for (int h = 0; h <= 20; h++) {
                    Map<Integer, Integer> left = new HashMap<>();
                    for (int s : f) {
                        left.merge(stuckToo(s).after(h).levels.get(b), 1, Integer::sum);
                    }
                    int most = left.values().stream().mapToInt(i -> i).max().getAsInt();
                    if (most < fewest) {
                        fewest = most;
                        best = 21 * b + h;
                    }
                }
            }
            tell(fewest);
            return best;
        }

        long needs(int c, int n) {
            if (!isBasin(c) || !within(n, 0, 40)) {
                return -1;
            }
            List<Integer> needed = new ArrayList<>();
            int plain = now.after(n).levels.get(c);
            for (int s = 0; s < now.from.size(); s++) {
                if (!now.stuck.contains(s) && stuckToo(s).after(n).levels.get(c) != plain) {
                    needed.add(s);
                }
            }
            tell(needed.size());
            return bits(needed);
        }

        Set<Integer> reached(int b, Set<Integer> shut, Set<Integer> so) {
            if (so.add(b)) {
                for (int s = 0; s < now.from.size(); s++) {
                    if (!shut.contains(s) && now.from.get(s) == b) {
                        reached(now.to.get(s), shut, so);
                    }
                }
            }
            return so;
        }

        /** The rows of n sluices one behind the other from a basin to another, the least first. */
        void rows(int at, int to, int n, List<Integer> so, List<List<Integer>> found) {
            if (n == 0) {
                if (at == to) {
                    found.add(new ArrayList<>(so));
                }
                return;
            }
            for (int s = 0; s < now.from.size(); s++) {
                if (!now.stuck.contains(s) && now.from.get(s) == at) {
                    so.add(s);
                    rows(now.to.get(s), to, n - 1, so, found);
                    so.remove(so.size() - 1);
                }
            }
        }

        long way(int from, int to) {
            if (!isBasin(from, to)) {
                return -1;
            }
            for (int n = 0; n < 6; n++) {
                List<List<Integer>> found = new ArrayList<>();
                rows(from, to, n, new ArrayList<>(), found);
                if (!found.isEmpty()) {
                    tell(found.get(0).stream().mapToLong(i -> i).toArray());
                    return n;
                }
            }
            return -2;
        }

        long cut(int from, int to) {
            if (!isBasin(from, to) || from == to) {
                return -1;
            }
            for (int n = 0; n <= 8; n++) {
                for (int set = 0; set < 256; set++) {
                    Set<Integer> shut = new HashSet<>(now.stuck);
                    boolean fine = set < 1 << now.from.size() && Integer.bitCount(set) == n;
                    for (int s = 0; s < 8; s++) {
                        if ((set & 1 << s) != 0) {
                            fine &= shut.add(s);
                        }
                    }
                    if (fine && !reached(from, shut, new HashSet<>()).contains(to)) {
                        tell(set);
                        return n;
                    }
                }
            }
            throw new AssertionError();
        }

        long ring() {
            for (int n = 1; n <= 6; n++) {
                List<List<Integer>> found = new ArrayList<>();
                for (int b = 0; b < now.levels.size(); b++) {
                    rows(b, b, n, new ArrayList<>(), found);
                }
                found.removeIf(r -> r.stream().mapToInt(i -> i).min().getAsInt() != r.get(0));
                found.sort((x, y) -> Arrays.compare(x.stream().mapToInt(i -> i).toArray(), y.stream().mapToInt(i -> i).toArray()));
                if (!found.isEmpty()) {
                    tell(found.get(0).stream().mapToLong(i -> i).toArray());
                    return n;
                }
            }
            return -2;
        }

        int best;

        void orders(List<Integer> left, List<Integer> so, Town t, int gone) {
            if (left.isEmpty() && gone > best) {
                best = gone;
                tell(so.stream().mapToLong(i -> i).toArray());
            }
            for (int i = 0; i < left.size(); i++) {
                List<Integer> rest = new ArrayList<>(left);
                int s = rest.remove(i);
                Town u = t.copy();
                boolean goes = u.boat(s);
                so.add(s);
                orders(rest, so, u, gone + (goes ? 1 : 0));
                so.remove(so.size() - 1);
            }
        }

        long order() {
            List<Integer> all = new ArrayList<>();
            for (int s = 0; s < Math.min(6, now.from.size()); s++) {
                all.add(s);
            }
            best = -1;
            orders(all, new ArrayList<>(), now, 0);
            return best;
        }

        final Map<Integer, Boolean> wins = new HashMap<>();

        boolean wins(int a, int b) {
            if (a < 0 || b < 0) {
                return true;
            }
            Boolean known = wins.get(a * 100 + b);
            if (known == null) {
                known = !wins(a, b - 2) || !wins(a - 1, b - 1) || !wins(a - 2, b);
                wins.put(a * 100 + b, known);
            }
            return known;
        }

        long locks(int a, int b) {
            if (!within(a, 0, 20) || !within(b, 0, 20)) {
                return -1;
            }
            tell();
            if (!wins(a, b)) {
                return 0;
            }
            for (int i = 0; i < 3; i++) {
                if (!wins(a - i, b - 2 + i)) {
                    tell(i, 2 - i);
                    return 1;
                }
            }
            throw new AssertionError();
        }

        /** Of all words of n boats, told by what each does, those whose k-th spoiling boat is the last. */
        java.math.BigInteger spoilt(int n, int k, int p) {
            if (k < 0 || n < k) {
                return java.math.BigInteger.ZERO;
            }
            if (n == 0) {
                return java.math.BigInteger.ONE;
            }
            return spoilt(n - 1, k - 1, p).multiply(java.math.BigInteger.valueOf(p)).add(spoilt(n - 1, k, p).multiply(java.math.BigInteger.valueOf(10 - p)));
        }

        long spoils(int n, int k, int p) {
            if (!within(n, 1, 12) || !within(k, 1, 12) || !within(p, 0, 10)) {
                return -1;
            }
            java.math.BigInteger up = spoilt(n - 1, k - 1, p).multiply(java.math.BigInteger.valueOf(p));
            java.math.BigInteger down = java.math.BigInteger.TEN.pow(n);
            java.math.BigInteger g = up.gcd(down);
            tell(up.divide(g).longValueExact(), down.divide(g).longValueExact());
            return 0;
        }

        static int has(int v, int x, int y) {
            return (x == y ? v / 2 : x > y ? v / 4 : 0) - (x / 2 + x % 2);
        }

        long rests(int v) {
            if (!within(v, 0, 20)) {
                return -1;
            }
            tell();
            int found = 0;
            for (int x = 0; x < 10; x++) {
                for (int y = 0; y < 10; y++) {
                    boolean rest = true;
                    for (int z = 0; z < 10; z++) {
                        rest &= has(v, z, y) <= has(v, x, y) && has(v, z, x) <= has(v, y, x);
                    }
                    if (rest && found++ == 0) {
                        tell(x, y);
                    }
                }
            }
            return found;
        }

        long law(String t) {
            int wrong = wrongRule(t);
            if (wrong >= 0) {
                return -10000 - wrong;
            }
            Town other = now.copy();
            other.rule = t;
            other = other.after(10);
            int by = now.after(10).gone();
            List<Long> told = new ArrayList<>(List.of((long) other.gone(), (long) by));
            for (int level : other.levels) {
                told.add((long) level);
            }
            row = told;
            return other.gone() - by;
        }

        int drawn;

        int draw(int n) {
            drawn = drawn * 1103515245 + 12345;
            return (int) (((drawn & 0xFFFFFFFFL) / 65536) % n);
        }

        long years(int seed, int n) {
            if (!within(n, 1, 60)) {
                return -1;
            }
            drawn = seed;
            long went = 0;
            long lost = 0;
            Town asked = now.copy();
            for (int i = 0; i < n; i++) {
                int what = draw(4);
                if (what <= 1) {
                    asked = asked.after(1);
                    went += asked.gone();
                    lost += asked.leaked;
                } else if (what == 2 && !asked.levels.isEmpty()) {
                    int b = draw(asked.levels.size());
                    int filled = asked.levels.get(b) + draw(3) + 1;
                    if (filled <= 9) {
                        asked.levels.set(b, filled);
                    }
                } else if (what == 3 && !asked.from.isEmpty()) {
                    asked.boat(draw(asked.from.size()));
                }
            }
            tell(went, lost);
            return asked.together();
        }
    }
}
