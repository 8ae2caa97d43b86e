import java.util.ArrayDeque;
import java.util.ArrayList;
import java.util.Arrays;
import java.util.List;
import java.util.Random;
import java.util.function.LongSupplier;

/** Random runs of calls: each answer of CarbonMinistry against that of a second, plain program of the document. */
public final class ModelTest {
    private static int wrong = 0;
    private static long calls = 0;
    private static final int[] faults = new int[6];

    public static void main(String[] args) {
        int runs = args.length > 0 ? Integer.parseInt(args[0]) : 460;
        long from = args.length > 1 ? Long.parseLong(args[1]) : 1;
        for (long k = from; k < from + runs && wrong < 5; k++) {
            new Run(k).go();
        }
        System.out.println(runs + " runs, " + calls + " calls, faults met " + Arrays.toString(faults));
        for (int k = 0; k < 6; k++) {
            if (runs >= 400 && faults[k] < 10) {
                wrong++;
                System.out.println("fault " + k + " is hardly tried");
            }
        }
        if (wrong != 0) {
            System.out.println(wrong + " answers are not as the model's");
            System.exit(1);
        }
    }

    // ------------------------------------------------------------------ the model

    @SuppressWarnings("serial")
    static final class Fault extends RuntimeException {
        final int kind;
        final int place;

        Fault(int kind, int place) {
            super(null, null, false, false);
            this.kind = kind;
            this.place = place;
        }
    }

    interface Term {
        int of(Scene s);
    }

    static final class Scene {
        int press, shape, day, strength, sheets, feel, feeling, number;
        Model model;
    }

    static final class World {
        int day;
        int[][] felt = new int[0][0];
        boolean[] in = new boolean[0];
        boolean[] turned = new boolean[0];
        ArrayList<int[]> kept = new ArrayList<>();

        World copy() {
            World w = new World();
            w.day = day;
            w.felt = Arrays.stream(felt).map(int[]::clone).toArray(int[][]::new);
            w.in = in.clone();
            w.turned = turned.clone();
            w.kept = new ArrayList<>(kept);
            return w;
        }
    }

    static final class Told {
        List<String> officers = new ArrayList<>();
        List<int[]> traits = new ArrayList<>();
        List<String> feelings = new ArrayList<>();
        List<int[]> carbons = new ArrayList<>();
        List<int[]> felt = new ArrayList<>();
        Term passes = s -> held((long) s.strength - s.sheets);
        Term fades = s -> 0;
        Term acts = s -> s.feel > 50 ? 1 : 0;
        int slip;
        int statements;
    }

    static int held(long v) {
        return (int) Math.max(-1000000, Math.min(1000000, v));
    }

    /** Reads sign by sign, without cutting the text into pieces first. */
    static final class Parser {
        static final List<String> OWN = Arrays.asList("officer", "shape", "press", "feeling", "carbon", "to", "sheets",
            "felt", "of", "is", "passes", "fades", "acts", "slip", "strength", "day", "feel", "number", "feels", "steps",
            "or", "and", "not", "all", "min", "max");
        final String t;
        int p = 0;
        int open = 0;
        String sort = "";

        Parser(String t) {
            this.t = t;
        }

        void blanks() {
            while (p < t.length() && (t.charAt(p) == ' ' || t.charAt(p) == '\n')) {
                p++;
            }
        }

        char peek() {
            blanks();
            return p < t.length() ? t.charAt(p) : 0xffff;
        }

        static boolean letter(int c) {
            return c >= 'a' && c <= 'z';
        }

        static boolean digit(int c) {
            return c >= '0' && c <= '9';
        }

        boolean glued() {
            return p > 0 && p < t.length() && (letter(t.charAt(p)) || digit(t.charAt(p)))
                && (letter(t.charAt(p - 1)) || digit(t.charAt(p - 1)));
        }

        /** The word that begins here, empty if none does. */
        String word() {
            blanks();
            if (glued()) {
                return "";
            }
            int q = p;
            while (q < t.length() && letter(t.charAt(q))) {
                q++;
            }
            return t.substring(p, q);
        }

        boolean eat(String what) {
            blanks();
            if (letter(what.charAt(0))) {
                if (!word().equals(what)) {
                    return false;
                }
            } else if (!t.startsWith(what, p)) {
                return false;
            }
            p += what.length();
            return true;
        }

        Fault unfit() {
            blanks();
            return new Fault(1, p);
        }

        void must(String what) {
            if (!eat(what)) {
                throw unfit();
            }
        }

        int number(int low, int high) {
            blanks();
            if (glued() || !digit(peek())) {
                throw unfit();
            }
            int q = p;
            while (q < t.length() && digit(t.charAt(q))) {
                if (q - p == 4) {
                    throw new Fault(1, q);
                }
                q++;
            }
            int v = Integer.parseInt(t.substring(p, q));
            if (v < low || v > high) {
                throw new Fault(2, p);
            }
            p = q;
            return v;
        }

        String name() {
            String w = word();
            if (w.isEmpty() || OWN.contains(w)) {
                throw unfit();
            }
            if (w.length() > 6) {
                throw new Fault(1, p + 6);
            }
            return w;
        }

        String newName(Told m) {
            String w = name();
            if (m.officers.contains(w) || m.feelings.contains(w)) {
                throw new Fault(3, p);
            }
            p += w.length();
            return w;
        }

        int oneOf(List<String> names) {
            int k = names.indexOf(name());
            if (k < 0) {
                throw new Fault(3, p);
            }
            return k;
        }

        Told ministry() {
            Told m = new Told();
            boolean[] laws = new boolean[3];
            while (peek() != 0xffff) {
                if (m.statements == 60) {
                    throw new Fault(5, p);
                }
                statement(m, laws);
                must(";");
                m.statements++;
            }
            return m;
        }

        void limit(boolean reached, int at) {
            if (reached) {
                throw new Fault(5, at);
            }
        }

        void statement(Told m, boolean[] laws) {
            blanks();
            int at = p;
            if (eat("officer")) {
                limit(m.officers.size() == 8, at);
                String n = newName(m);
                must("shape");
                int shape = number(0, 9);
                must("press");
                int press = number(0, 9);
                m.officers.add(n);
                m.traits.add(new int[] {shape, press});
            } else if (eat("feeling")) {
                limit(m.feelings.size() == 4, at);
                m.feelings.add(newName(m));
            } else if (eat("carbon")) {
                limit(m.carbons.size() == 12, at);
                int a = oneOf(m.officers);
                p += m.officers.get(a).length();
                must("to");
                int b = oneOf(m.officers);
                if (a == b) {
                    throw new Fault(3, p);
                }
                p += m.officers.get(b).length();
                must("sheets");
                m.carbons.add(new int[] {a, b, number(1, 9)});
            } else if (eat("felt")) {
                int f = oneOf(m.feelings);
                p += m.feelings.get(f).length();
                must("of");
                int o = oneOf(m.officers);
                for (int[] told : m.felt) {
                    if (told[0] == f && told[1] == o) {
                        throw new Fault(3, p);
                    }
                }
                p += m.officers.get(o).length();
                must("is");
                m.felt.add(new int[] {f, o, number(1, 99)});
            } else if (eat("slip")) {
                m.slip = number(0, 100);
            } else if (eat("passes")) {
                limit(laws[0], at);
                laws[0] = true;
                sort = "passes";
                m.passes = sum();
            } else if (eat("fades")) {
                limit(laws[1], at);
                laws[1] = true;
                sort = "fades";
                m.fades = sum();
            } else if (eat("acts")) {
                limit(laws[2], at);
                laws[2] = true;
                sort = "acts";
                m.acts = test();
            } else {
                throw unfit();
            }
        }

        void opening(String what) {
            blanks();
            int at = p;
            must(what);
            if (open == 6) {
                throw new Fault(4, at);
            }
            open++;
        }

        Term test() {
            Term a = both();
            while (eat("or")) {
                Term l = a;
                Term r = both();
                a = s -> l.of(s) != 0 || r.of(s) != 0 ? 1 : 0;
            }
            return a;
        }

        Term both() {
            Term a = fact();
            while (eat("and")) {
                Term l = a;
                Term r = fact();
                a = s -> l.of(s) != 0 && r.of(s) != 0 ? 1 : 0;
            }
            return a;
        }

        Term fact() {
            if (word().equals("not")) {
                opening("not");
                Term a = fact();
                open--;
                return s -> a.of(s) == 0 ? 1 : 0;
            }
            if (peek() == '[') {
                opening("[");
                Term a = test();
                must("]");
                open--;
                return a;
            }
            if (eat("all")) {
                return s -> 1;
            }
            Term l = sum();
            if (eat("<")) {
                Term r = sum();
                return s -> l.of(s) < r.of(s) ? 1 : 0;
            }
            if (eat(">")) {
                Term r = sum();
                return s -> l.of(s) > r.of(s) ? 1 : 0;
            }
            must("=");
            Term r = sum();
            return s -> l.of(s) == r.of(s) ? 1 : 0;
        }

        Term sum() {
            Term a = product();
            while (true) {
                Term l = a;
                if (eat("+")) {
                    Term r = product();
                    a = s -> held((long) l.of(s) + r.of(s));
                } else if (eat("-")) {
                    Term r = product();
                    a = s -> held((long) l.of(s) - r.of(s));
                } else {
                    return a;
                }
            }
        }

        Term product() {
            Term a = part();
            while (true) {
                Term l = a;
                if (eat("*")) {
                    Term r = part();
                    a = s -> held((long) l.of(s) * r.of(s));
                } else if (eat("/")) {
                    Term r = part();
                    a = s -> {
                        int d = r.of(s);
                        return d == 0 ? 0 : (int) Math.floor((double) l.of(s) / d);
                    };
                } else {
                    return a;
                }
            }
        }

        Term part() {
            blanks();
            if (digit(peek())) {
                int v = number(0, 9999);
                return s -> v;
            }
            if (peek() == '(') {
                opening("(");
                Term a = sum();
                must(")");
                open--;
                return a;
            }
            String w = word();
            boolean asked = sort.isEmpty();
            switch (w) {
                case "min":
                case "max":
                    p += 3;
                    opening("(");
                    Term a = sum();
                    must(",");
                    Term b = sum();
                    must(")");
                    open--;
                    return w.equals("min") ? s -> Math.min(a.of(s), b.of(s)) : s -> Math.max(a.of(s), b.of(s));
                case "press":
                    p += 5;
                    return s -> s.press;
                case "shape":
                    p += 5;
                    return s -> s.shape;
                case "day":
                    p += 3;
                    return s -> s.day;
                default:
                    break;
            }
            if (sort.equals("passes") && w.equals("strength")) {
                p += 8;
                return s -> s.strength;
            }
            if (sort.equals("passes") && w.equals("sheets")) {
                p += 6;
                return s -> s.sheets;
            }
            if ((sort.equals("fades") || sort.equals("acts")) && w.equals("feel")) {
                p += 4;
                return s -> s.feel;
            }
            if (sort.equals("acts") && w.equals("feeling")) {
                p += 7;
                return s -> s.feeling;
            }
            if (asked && w.equals("number")) {
                p += 6;
                return s -> s.number;
            }
            if (asked && (w.equals("feels") || w.equals("steps"))) {
                opening(w);
                Term of = part();
                open--;
                return w.equals("feels") ? s -> s.model.feelsOf(s.number, of.of(s))
                    : s -> s.model.steps(s.number, of.of(s));
            }
            throw unfit();
        }
    }

    static final class Model {
        byte[] tape = new byte[0];
        Told told = new Told();
        World now = new World();
        ArrayList<World> history = new ArrayList<>();
        int[][] found = new int[0][];
        int[] refused = new int[6];
        int faultKind = 0;
        int faultPlace = -1;
        int[] image = null;
        long seed = 1;

        int no(int what) {
            refused[what]++;
            return -1;
        }

        int nay(int what) {
            refused[what]++;
            return 0;
        }

        boolean officerIs(int o) {
            return o >= 0 && o < told.officers.size();
        }

        boolean feelingIs(int f) {
            return f >= 0 && f < told.feelings.size();
        }

        boolean carbonIs(int c) {
            return c >= 0 && c < told.carbons.size();
        }

        int giver(World w, int c) {
            return told.carbons.get(c)[w.turned[c] ? 1 : 0];
        }

        int taker(World w, int c) {
            return told.carbons.get(c)[w.turned[c] ? 0 : 1];
        }

        int feed(int... numbers) {
            if (tape.length + 20 > 1600) {
                return no(0);
            }
            byte[] next = Arrays.copyOf(tape, tape.length + 20);
            for (int k = 0; k < 20; k++) {
                next[tape.length + k] = (byte) (numbers[k / 4] >>> 8 * (3 - k % 4));
            }
            tape = next;
            return tape.length;
        }

        int end(int n) {
            if (n < 0 || n > tape.length) {
                return nay(0);
            }
            tape = Arrays.copyOf(tape, n);
            return 1;
        }

        String taken() {
            char[] text = new char[tape.length];
            for (int k = 0; k < text.length; k++) {
                text[k] = (char) (tape[k] & 255);
            }
            tape = new byte[0];
            return new String(text);
        }

        int ministry() {
            try {
                faultKind = 0;
                faultPlace = -1;
                told = new Parser(taken()).ministry();
            } catch (Fault f) {
                faultKind = f.kind;
                faultPlace = f.place;
                return no(1);
            } finally {
                faults[faultKind]++;
            }
            now = new World();
            now.felt = new int[told.officers.size()][told.feelings.size()];
            for (int[] f : told.felt) {
                now.felt[f[1]][f[0]] = f[2];
            }
            now.in = new boolean[told.carbons.size()];
            Arrays.fill(now.in, true);
            now.turned = new boolean[told.carbons.size()];
            history.clear();
            found = new int[0][];
            return told.statements;
        }

        int has(int what) {
            switch (what) {
                case 0: return told.officers.size();
                case 1: return told.feelings.size();
                case 2: return told.carbons.size();
                case 3: return now.day;
                case 4: return count(now.in);
                case 5: return count(now.turned);
                case 6: return Arrays.stream(now.felt).flatMapToInt(Arrays::stream).sum();
                case 7: return Math.min(40, now.kept.size());
                case 8: return found.length;
                case 9: return Math.min(20, history.size());
                default: return -1;
            }
        }

        static int count(boolean[] flags) {
            int n = 0;
            for (boolean f : flags) {
                n += f ? 1 : 0;
            }
            return n;
        }

        int letter(int kind, int which, int k) {
            if (kind < 0 || kind > 1 || k < 0 || k > 5 || !(kind == 0 ? officerIs(which) : feelingIs(which))) {
                return -1;
            }
            String n = (kind == 0 ? told.officers : told.feelings).get(which);
            return k < n.length() ? n.charAt(k) - 'a' + 1 : 0;
        }

        int officer(int o, int what) {
            if (!officerIs(o) || what < 0 || what > 3) {
                return -1;
            }
            if (what < 2) {
                return told.traits.get(o)[what];
            }
            int n = 0;
            for (int c = 0; c < told.carbons.size(); c++) {
                if (now.in[c] && (what == 2 ? taker(now, c) : giver(now, c)) == o) {
                    n++;
                }
            }
            return n;
        }

        int carbon(int c, int what) {
            if (!carbonIs(c) || what < 0 || what > 4) {
                return -1;
            }
            return what < 3 ? told.carbons.get(c)[what] : (what == 3 ? now.in[c] : now.turned[c]) ? 1 : 0;
        }

        int feels(int o, int f) {
            return officerIs(o) && feelingIs(f) ? now.felt[o][f] : -1;
        }

        int feelsOf(int o, int f) {
            return feelingIs(f) ? now.felt[o][f] : 0;
        }

        static int cut(int v) {
            return Math.max(0, Math.min(99, v));
        }

        Scene scene(int o, int day) {
            Scene s = new Scene();
            s.shape = told.traits.get(o)[0];
            s.press = told.traits.get(o)[1];
            s.day = day;
            s.number = o;
            s.model = this;
            return s;
        }

        int through(World w, int c, int f) {
            int strength = w.felt[giver(w, c)][f];
            if (!w.in[c] || strength == 0) {
                return 0;
            }
            Scene s = scene(taker(w, c), w.day);
            s.strength = strength;
            s.sheets = told.carbons.get(c)[2];
            return cut(told.passes.of(s));
        }

        int passes(int c, int f) {
            return carbonIs(c) && feelingIs(f) ? through(now, c, f) : -1;
        }

        int[][] after(World w) {
            int[][] next = new int[told.officers.size()][told.feelings.size()];
            for (int o = 0; o < next.length; o++) {
                for (int f = 0; f < next[o].length; f++) {
                    int all = 0;
                    if (w.felt[o][f] > 0) {
                        Scene s = scene(o, w.day);
                        s.feel = w.felt[o][f];
                        all = cut(told.fades.of(s));
                    }
                    for (int c = 0; c < told.carbons.size(); c++) {
                        if (taker(w, c) == o) {
                            all += through(w, c, f);
                        }
                    }
                    next[o][f] = Math.min(99, all);
                }
            }
            return next;
        }

        int pass(World w) {
            w.felt = after(w);
            int all = 0;
            for (int o = 0; o < w.felt.length; o++) {
                for (int f = 0; f < w.felt[o].length; f++) {
                    Scene s = scene(o, w.day);
                    s.feel = w.felt[o][f];
                    s.feeling = f;
                    if (s.feel > 0 && told.acts.of(s) != 0) {
                        w.kept.add(new int[] {w.day, o, f, s.feel});
                        all++;
                    }
                }
            }
            w.day++;
            return all;
        }

        int kept(int k, int what) {
            int n = has(7);
            if (k < 0 || k >= n || what < 0 || what > 3) {
                return -1;
            }
            return now.kept.get(now.kept.size() - n + k)[what];
        }

        boolean comes(int n, int most) {
            return n >= 0 && n <= most && now.day + n <= 999;
        }

        World ahead(int n) {
            World w = now.copy();
            for (int k = 0; k < n; k++) {
                pass(w);
            }
            return w;
        }

        int later(int o, int f, int n) {
            return officerIs(o) && feelingIs(f) && comes(n, 60) ? ahead(n).felt[o][f] : -1;
        }

        int settles() {
            World w = now.copy();
            for (int k = 0; k <= 59; k++) {
                if (w.day + 1 > 999) {
                    return -1;
                }
                int[][] was = w.felt;
                pass(w);
                if (Arrays.deepEquals(was, w.felt)) {
                    return k;
                }
            }
            return -1;
        }

        int strongest(int f, int n) {
            if (!feelingIs(f) || !comes(n, 60)) {
                return -1;
            }
            World w = ahead(n);
            int best = -1;
            for (int o = 0; o < told.officers.size(); o++) {
                if (w.felt[o][f] > 0 && (best < 0 || w.felt[o][f] > w.felt[best][f])) {
                    best = o;
                }
            }
            return best;
        }

        int acted(int n) {
            return comes(n, 60) ? ahead(n).kept.size() - now.kept.size() : -1;
        }

        int turning(int o, int f, int strength, int n) {
            if (!officerIs(o) || !feelingIs(f) || strength < 1 || strength > 99 || !comes(n, 20)) {
                return -1;
            }
            int best = -1;
            int many = told.carbons.size();
            for (int mask = 0; mask < 1 << many; mask++) {
                if (best >= 0 && Integer.bitCount(mask) >= Integer.bitCount(best)) {
                    continue;
                }
                World w = now.copy();
                boolean may = true;
                for (int c = 0; c < many; c++) {
                    if ((mask >> c & 1) == 1) {
                        may &= w.in[c];
                        w.turned[c] = !w.turned[c];
                    }
                }
                for (int k = 0; k < n && may; k++) {
                    w.felt = after(w);
                    w.day++;
                }
                if (may && w.felt[o][f] >= strength) {
                    best = mask;
                }
            }
            return best;
        }

        int steps(int from, int to) {
            return officerIs(from) && officerIs(to) ? stepsWithout(from, to, 0) : -1;
        }

        int stepsWithout(int from, int to, int gone) {
            int[] far = new int[told.officers.size()];
            Arrays.fill(far, -1);
            far[from] = 0;
            ArrayDeque<Integer> row = new ArrayDeque<>(List.of(from));
            while (!row.isEmpty()) {
                int at = row.poll();
                for (int c = 0; c < told.carbons.size(); c++) {
                    if (now.in[c] && (gone >> c & 1) == 0 && giver(now, c) == at && far[taker(now, c)] < 0) {
                        far[taker(now, c)] = far[at] + 1;
                        row.add(taker(now, c));
                    }
                }
            }
            return far[to];
        }

        int cutting(int from, int to) {
            if (!officerIs(from) || !officerIs(to) || from == to) {
                return -1;
            }
            int best = 99;
            for (int gone = 0; gone < 1 << told.carbons.size(); gone++) {
                if (Integer.bitCount(gone) < best && stepsWithout(from, to, gone) < 0) {
                    best = Integer.bitCount(gone);
                }
            }
            return best;
        }

        int discover() {
            String t = taken();
            if (t.length() == 0 || t.length() % 3 != 0 || t.length() > 48) {
                return no(1);
            }
            int[][] rows = new int[t.length() / 3][3];
            for (int k = 0; k < t.length(); k++) {
                rows[k / 3][k % 3] = t.charAt(k);
            }
            for (int[] r : rows) {
                if (r[0] > 30 || !officerIs(r[1]) || r[2] > 99) {
                    return no(1);
                }
            }
            found = rows;
            return rows.length;
        }

        World alone(int o, int f, int strength) {
            World w = now.copy();
            for (int[] row : w.felt) {
                row[f] = 0;
            }
            w.felt[o][f] = strength;
            return w;
        }

        List<Integer> allSources(int f) {
            List<Integer> all = new ArrayList<>();
            for (int o = 0; o < told.officers.size(); o++) {
                for (int strength = 1; strength <= 99; strength++) {
                    boolean fits = true;
                    for (int[] r : found) {
                        if (now.day + r[0] > 999) {
                            fits = false;
                        }
                    }
                    World w = alone(o, f, strength);
                    for (int d = 0; d <= 30 && fits && found.length > 0; d++) {
                        for (int[] r : found) {
                            fits &= r[0] != d || w.felt[r[1]][f] == r[2];
                        }
                        w.felt = after(w);
                        w.day++;
                    }
                    if (fits) {
                        all.add(100 * o + strength);
                    }
                }
            }
            return all;
        }

        int sources(int f, int k) {
            if (!feelingIs(f)) {
                return -1;
            }
            List<Integer> all = allSources(f);
            return k == -1 ? all.size() : k >= 0 && k < all.size() ? all.get(k) : -1;
        }

        int tells(int f, int what) {
            if (!feelingIs(f) || what < 0 || what > 2) {
                return -1;
            }
            List<World> worlds = new ArrayList<>();
            for (int s : allSources(f)) {
                worlds.add(alone(s / 100, f, s % 100));
            }
            if (worlds.isEmpty() || now.day == 999) {
                return -1;
            }
            int[] best = null;
            for (int d = 1; d <= 30 && now.day + d <= 999; d++) {
                for (World w : worlds) {
                    w.felt = after(w);
                    w.day++;
                }
                for (int o = 0; o < told.officers.size(); o++) {
                    int most = 0;
                    for (int strength = 0; strength < 100; strength++) {
                        int n = 0;
                        for (World w : worlds) {
                            n += w.felt[o][f] == strength ? 1 : 0;
                        }
                        most = Math.max(most, n);
                    }
                    if (best == null || most < best[2]) {
                        best = new int[] {d, o, most};
                    }
                }
            }
            return best[what];
        }

        void act() {
            history.add(now.copy());
            if (history.size() > 20) {
                history.remove(0);
            }
        }

        int put(int o, int f, int strength) {
            if (!officerIs(o) || !feelingIs(f) || strength < 0 || strength > 99 || now.felt[o][f] == strength) {
                return nay(2);
            }
            act();
            now.felt[o][f] = strength;
            return 1;
        }

        int turn(int c, int on) {
            if (!carbonIs(c) || on < 0 || on > 1 || now.turned[c] == (on == 1)) {
                return nay(2);
            }
            act();
            now.turned[c] = on == 1;
            return 1;
        }

        int pull(int c, int on) {
            if (!carbonIs(c) || on < 0 || on > 1 || now.in[c] == (on == 1)) {
                return nay(2);
            }
            act();
            now.in[c] = on == 1;
            return 1;
        }

        int days(int n) {
            if (n < 1 || !comes(n, 100)) {
                return no(3);
            }
            act();
            int all = 0;
            for (int k = 0; k < n; k++) {
                all += pass(now);
            }
            return all;
        }

        int draw(int m) {
            seed = (1103515245L * seed + 12345) % (1L << 31);
            return (int) (seed / 64 % m);
        }

        int chance(int n) {
            if (n < 1 || !comes(n, 100)) {
                return no(3);
            }
            act();
            int slips = 0;
            for (int k = 0; k < n; k++) {
                if (draw(100) < told.slip && told.carbons.size() > 0) {
                    int c = draw(told.carbons.size());
                    now.turned[c] = !now.turned[c];
                    slips++;
                }
                pass(now);
            }
            return slips;
        }

        int undo() {
            if (history.isEmpty()) {
                return nay(4);
            }
            now = history.remove(history.size() - 1);
            return 1;
        }

        int seed(int s) {
            if (s < 0) {
                return nay(5);
            }
            seed = s;
            return 1;
        }

        long ask() {
            Parser q = new Parser(taken());
            faultKind = 0;
            faultPlace = -1;
            try {
                String way = q.word();
                if (!List.of("first", "last", "often", "total", "most", "least").contains(way)) {
                    throw q.unfit();
                }
                q.p += way.length();
                Term t = List.of("first", "last", "often").contains(way) ? q.test() : q.sum();
                if (q.peek() != 0xffff) {
                    throw q.unfit();
                }
                return answer(way, t);
            } catch (Fault f) {
                faultKind = f.kind;
                faultPlace = f.place;
                return -1000000000000000L;
            } finally {
                faults[faultKind]++;
            }
        }

        long answer(String way, Term t) {
            long[] all = new long[told.officers.size()];
            for (int o = 0; o < all.length; o++) {
                all[o] = t.of(scene(o, now.day));
            }
            long holds = Arrays.stream(all).filter(v -> v != 0).count();
            switch (way) {
                case "first":
                    for (int o = 0; o < all.length; o++) {
                        if (all[o] != 0) {
                            return o;
                        }
                    }
                    return -1;
                case "last":
                    for (int o = all.length - 1; o >= 0; o--) {
                        if (all[o] != 0) {
                            return o;
                        }
                    }
                    return -1;
                case "often": return holds;
                case "total": return Arrays.stream(all).sum();
                case "most": return Arrays.stream(all).max().orElse(0);
                default: return Arrays.stream(all).min().orElse(0);
            }
        }

        int[] imageOf(World w) {
            ArrayList<Integer> b = new ArrayList<>(List.of(w.day / 256, w.day % 256));
            for (int c = 0; c < told.carbons.size(); c++) {
                b.add(w.in[c] ? 1 : 0);
                b.add(w.turned[c] ? 1 : 0);
            }
            for (int[] row : w.felt) {
                for (int v : row) {
                    b.add(v);
                }
            }
            int c = 241;
            for (int v : b) {
                c = (3 * c + v) % 251;
            }
            b.add(c);
            return b.stream().mapToInt(Integer::intValue).toArray();
        }

        int image() {
            image = imageOf(now);
            return image.length;
        }

        int octet(int k) {
            return image != null && k >= 0 && k < image.length ? image[k] : -1;
        }

        int on() {
            String t = taken();
            int carbons = told.carbons.size();
            int feelings = told.feelings.size();
            if (t.length() != 3 + 2 * carbons + told.officers.size() * feelings) {
                return nay(5);
            }
            World w = new World();
            w.day = t.charAt(0) * 256 + t.charAt(1);
            w.in = new boolean[carbons];
            w.turned = new boolean[carbons];
            w.felt = new int[told.officers.size()][feelings];
            boolean well = w.day <= 999;
            int p = 2;
            for (int c = 0; c < carbons; c++) {
                well &= t.charAt(p) <= 1 && t.charAt(p + 1) <= 1;
                w.in[c] = t.charAt(p++) == 1;
                w.turned[c] = t.charAt(p++) == 1;
            }
            for (int[] row : w.felt) {
                for (int f = 0; f < feelings; f++) {
                    row[f] = t.charAt(p++);
                    well &= row[f] <= 99;
                }
            }
            if (!well || imageOf(w)[p] != t.charAt(p)) {
                return nay(5);
            }
            now = w;
            history.clear();
            return 1;
        }

        int status(int what) {
            return what >= 0 && what < 6 ? refused[what] : -1;
        }
    }

    // ------------------------------------------------------------------ runs of calls

    static final class Run {
        final Random r;
        final long number;
        final CarbonMinistry x = new CarbonMinistry();
        final Model m = new Model();
        int made = 0;
        boolean broken = false;

        Run(long number) {
            this.number = number;
            r = new Random(number * 7919 + 17);
        }

        void same(String call, long got, LongSupplier due) {
            made++;
            calls++;
            long want = due.getAsLong();
            if (got != want && !broken) {
                broken = true;
                wrong++;
                System.out.println("run " + number + ", call " + made + ": " + call + " answered " + got + ", due is "
                    + want);
            }
        }

        void write(int[] octets) {
            same("end", x.end(0) ? 1 : 0, () -> m.end(0));
            for (int k = 0; k < octets.length; k += 20) {
                int[] n = new int[5];
                for (int j = 0; j < 20; j++) {
                    n[j / 4] = n[j / 4] << 8 | (k + j < octets.length ? octets[k + j] : 32);
                }
                same("feed", x.feed(n[0], n[1], n[2], n[3], n[4]), () -> m.feed(n));
            }
            same("end", x.end(octets.length) ? 1 : 0, () -> m.end(octets.length));
        }

        void write(String text) {
            String cut = text.length() > 1600 ? text.substring(0, 1600) : text;
            write(cut.chars().toArray());
        }

        int n(int... some) {
            return some[r.nextInt(some.length)];
        }

        String s(String... some) {
            return some[r.nextInt(some.length)];
        }

        String part(String sort, int deep) {
            int k = r.nextInt(deep > 0 ? 12 : 8);
            if (k < 3) {
                return "" + n(0, 1, 2, 3, 5, 7, 10, 50, 99, 100, 1000, 9999);
            }
            if (k == 3) {
                return r.nextInt(4) == 0 ? "day" : s("press", "shape");
            }
            if (k < 8) {
                switch (sort) {
                    case "passes": return s("strength", "strength", "sheets");
                    case "fades": return "feel";
                    case "acts": return s("feel", "feel", "feeling");
                    default: return s("number", "day", "feels " + r.nextInt(4), "steps " + r.nextInt(8),
                        "feels (number-1)", "steps(shape)", "feels feels 0", "steps steps number");
                }
            }
            if (k < 10) {
                return "(" + sum(sort, deep - 1) + ")";
            }
            return s("min", "max", "min ", "max\n") + "(" + sum(sort, deep - 1) + "," + sum(sort, deep - 1) + ")";
        }

        String sum(String sort, int deep) {
            StringBuilder b = new StringBuilder(part(sort, deep));
            while (r.nextInt(3) == 0) {
                b.append(s("+", "-", "*", "/", " + ", " - ", " * ", " / ")).append(part(sort, deep));
            }
            return b.toString();
        }

        String law(String sort) {
            if (sort.equals("passes") && r.nextInt(3) != 0) {
                return s("strength-sheets", "strength/sheets+press", "strength*9/10", "strength-min(day,sheets)",
                    "max(1,strength-press)", "strength*strength/50", "strength/2+day/3");
            }
            if (sort.equals("fades") && r.nextInt(3) != 0) {
                return s("feel/2", "feel-1-press", "feel", "feel*3/4", "max(feel-day,0)", "feel-shape");
            }
            return sum(sort, 2);
        }

        String test(String sort, int deep) {
            StringBuilder b = new StringBuilder(fact(sort, deep));
            while (r.nextInt(3) == 0) {
                b.append(s(" or ", " and ", "\nor\n")).append(fact(sort, deep));
            }
            return b.toString();
        }

        String fact(String sort, int deep) {
            int k = r.nextInt(deep > 0 ? 8 : 5);
            if (k == 0) {
                return s("all", "not all");
            }
            if (k < 5) {
                return sum(sort, deep) + s("<", ">", "=", " < ", " > ") + sum(sort, deep);
            }
            if (r.nextInt(12) == 0) {
                return s("not not ", "[not [", "[[[", "not [not ") + fact(sort, deep) + s("", "]]", "]]]", "]");
            }
            return k < 7 ? "not " + fact(sort, deep - 1) : "[" + test(sort, deep - 1) + "]";
        }

        String ministryText() {
            ArrayList<String> t = new ArrayList<>();
            String[] names = {"mini", "sec", "lad", "a", "bcdefg", "clerk", "zed", "o", "p", "q"};
            String[] moods = {"joy", "woe", "first", "most", "f", "anger"};
            int officers = r.nextInt(8) == 0 ? r.nextInt(10) : 2 + r.nextInt(7);
            int feelings = r.nextInt(8) == 0 ? r.nextInt(6) : 1 + r.nextInt(3);
            int carbons = r.nextInt(8) == 0 ? r.nextInt(14) : 1 + r.nextInt(9);
            for (int k = 0; k < officers; k++) {
                t.add("officer " + names[k] + " shape " + r.nextInt(10) + " press " + r.nextInt(10));
            }
            for (int k = 0; k < feelings; k++) {
                t.add("feeling " + moods[k]);
            }
            for (int k = 0; k < carbons && officers > 1; k++) {
                int a = r.nextInt(officers);
                int b = (a + 1 + r.nextInt(officers - 1)) % officers;
                t.add("carbon " + names[a] + " to " + names[b] + " sheets " + (1 + r.nextInt(9)));
            }
            for (int k = 0; k < officers * feelings; k++) {
                if (r.nextInt(3) == 0) {
                    t.add("felt " + moods[k % feelings] + " of " + names[k / feelings] + " is " + (1 + r.nextInt(99)));
                }
            }
            if (r.nextInt(3) != 0) {
                t.add(r.nextInt(t.size() + 1), "passes " + law("passes"));
            }
            if (r.nextInt(3) != 0) {
                t.add(r.nextInt(t.size() + 1), "fades " + law("fades"));
            }
            if (r.nextInt(3) != 0) {
                t.add(r.nextInt(t.size() + 1), "acts " + test("acts", 2));
            }
            for (int k = r.nextInt(3); k > 0; k--) {
                t.add(r.nextInt(t.size() + 1), "slip " + n(0, 20, 50, 100, 100));
            }
            if (r.nextInt(10) == 0) {
                while (t.size() < n(59, 60, 61, 62)) {
                    t.add("slip " + n(3, 40));
                }
                t.add(s("", "", "  ", "x", "slip", "7"));
                return String.join(";", t);
            }
            return String.join(s(";", "; ", " ;\n"), t) + s(";", ";", "; ", ";\n\n");
        }

        String mutated(String text) {
            StringBuilder b = new StringBuilder(text);
            for (int k = 1 + r.nextInt(2); k > 0; k--) {
                int at = r.nextInt(b.length() + 1);
                int to = Math.min(b.length(), at + 1 + r.nextInt(3));
                String piece = s("(", ")", "[", "]", ";", ",", "not ", " not", "7", "12345", "0", " ", "x", "abcdefgh",
                    "officer", " feel ", "=", "<", "+", "-", "feels ", "steps ", "min(", "((((((", "[[[[[[", "" + (char) 200,
                    "not not not not not not ", " 10", " 100 ", "A", "\t", "\n", " mini", " joy ", " lad ", "day", "number");
                int where = r.nextInt(5);
                if (where == 0) {
                    b.delete(at, to);
                } else if (where == 1) {
                    b.replace(at, to, piece);
                } else if (where == 2) {
                    b.insert(at, piece);
                } else if (where == 3) {
                    b.setLength(at);
                } else {
                    swapWord(b, piece);
                }
            }
            return b.toString();
        }

        /** The text with a number in it made another one, or put in so many brackets that they may be too many. */
        String numberMutated(String text) {
            ArrayList<Integer> starts = new ArrayList<>();
            for (int k = 0; k < text.length(); k++) {
                if (Parser.digit(text.charAt(k)) && (k == 0 || !Parser.digit(text.charAt(k - 1)))) {
                    starts.add(k);
                }
            }
            if (starts.isEmpty()) {
                return mutated(text);
            }
            int from = starts.get(r.nextInt(starts.size()));
            if (r.nextBoolean()) {
                from = starts.get(starts.size() - 1);
            }
            int to = from;
            while (to < text.length() && Parser.digit(text.charAt(to))) {
                to++;
            }
            String was = text.substring(from, to);
            String now = s("0", "00", "10", "010", "100", "101", "9", "0009", "1000", "9999", "10000", "00001");
            if (r.nextBoolean()) {
                now = was;
                for (int k = 2 + r.nextInt(6); k > 0; k--) {
                    now = r.nextInt(4) == 0 ? s("min(", "max (") + now + ",1)" : "(" + now + ")";
                }
            }
            return text.substring(0, from) + now + text.substring(to);
        }

        String spoilt(String text) {
            int k = r.nextInt(6);
            return k == 0 ? mutated(text) : k == 1 ? numberMutated(text) : text;
        }

        /** Puts a piece, or another word of the text, where a word stands. */
        void swapWord(StringBuilder b, String piece) {
            String[] words = b.toString().split("(?<=\\W)|(?=\\W)");
            if (words.length < 2) {
                return;
            }
            int at = r.nextInt(words.length);
            words[at] = r.nextBoolean() ? words[r.nextInt(words.length)] : piece;
            b.setLength(0);
            b.append(String.join("", words));
        }

        String question() {
            return r.nextBoolean() ? s("first ", "last ", "often ") + test("", 2) : s("total ", "most ", "least ") + sum("", 2);
        }

        void readMinistry() {
            String t = ministryText();
            for (int k = 0; k < 4 && t.length() > 1600; k++) {
                t = ministryText();
            }
            if (r.nextInt(3) == 0) {
                StringBuilder b = new StringBuilder(t);
                swapWord(b, s("x", "mini", "joy", "12345", "not"));
                write(b.toString());
            } else {
                write(spoilt(t));
            }
            same("ministry", x.ministry(), m::ministry);
            same("fault", x.fault(0), () -> m.faultKind);
            same("fault", x.fault(1), () -> m.faultPlace);
        }

        void askSomething() {
            String t = question();
            write(spoilt(t));
            same("ask " + t, x.ask(), m::ask);
            same("fault", x.fault(0), () -> m.faultKind);
            same("fault", x.fault(1), () -> m.faultPlace);
        }

        int o() {
            return r.nextInt(12) == 0 ? n(-1, 8, 99, Integer.MIN_VALUE, Integer.MAX_VALUE) : r.nextInt(m.told.officers.size() + 1);
        }

        int f() {
            return r.nextInt(12) == 0 ? n(-1, 4, 99, Integer.MIN_VALUE, Integer.MAX_VALUE) : r.nextInt(m.told.feelings.size() + 1);
        }

        int c() {
            return r.nextInt(12) == 0 ? n(-1, 12, 99, Integer.MIN_VALUE, Integer.MAX_VALUE) : r.nextInt(m.told.carbons.size() + 1);
        }

        void lookAround() {
            for (int k = -1; k <= 10; k++) {
                int a = k;
                same("has(" + a + ")", x.has(a), () -> m.has(a));
                same("status", x.status(a), () -> m.status(a));
            }
            for (int i = 0; i < 20; i++) {
                int o = o(), f = f(), c = c(), k = n(-1, 0, 1, 2, 3, 4, 5, 6), kind = n(0, 0, 1, 1, -1, 2);
                switch (r.nextInt(6)) {
                    case 0: same("letter", x.letter(kind, kind == 0 ? o : f, k), () -> m.letter(kind, kind == 0 ? o : f, k)); break;
                    case 1: same("officer", x.officer(o, k), () -> m.officer(o, k)); break;
                    case 2: same("carbon", x.carbon(c, k), () -> m.carbon(c, k)); break;
                    case 3: same("feels", x.feels(o, f), () -> m.feels(o, f)); break;
                    case 4: same("passes", x.passes(c, f), () -> m.passes(c, f)); break;
                    default:
                        int at = n(-1, 0, 1, r.nextInt(41), m.has(7) - 1, m.has(7));
                        same("kept", x.kept(at, k), () -> m.kept(at, k));
                        break;
                }
            }
        }

        void lookAhead() {
            int o = o(), o2 = o(), f = f(), n = n(0, 1, 2, 3, 5, 10, 30, 59, 60, 61, -1, Integer.MAX_VALUE);
            switch (r.nextInt(8)) {
                case 0: same("later", x.later(o, f, n), () -> m.later(o, f, n)); break;
                case 1: same("settles", x.settles(), m::settles); break;
                case 2: same("strongest", x.strongest(f, n), () -> m.strongest(f, n)); break;
                case 3: same("acted", x.acted(n), () -> m.acted(n)); break;
                case 4: same("steps", x.steps(o, o2), () -> m.steps(o, o2)); break;
                case 5: same("cutting", x.cutting(o, o2), () -> m.cutting(o, o2)); break;
                default:
                    int days = m.told.carbons.size() > 9 ? n(0, 1, 2, -1, 21) : n(0, 1, 2, 3, 4, 6, r.nextInt(60) == 0 ? 20 : 5, 21);
                    int strength = n(0, 1, 5, 10, 20, 40, 60, 80, 99, 100, 1 + r.nextInt(99));
                    same("turning", x.turning(o, f, strength, days), () -> m.turning(o, f, strength, days));
                    break;
            }
        }

        void act() {
            int o = o(), f = f(), c = c(), on = r.nextInt(9) == 0 ? n(-1, 2) : r.nextInt(2);
            int n = n(1, 1, 2, 3, 7, 30, 100, 0, -1, 101, Integer.MAX_VALUE);
            switch (r.nextInt(8)) {
                case 0:
                    int strength = n(0, 1, 50, 99, 100, -1, r.nextInt(100), r.nextInt(100), r.nextInt(100));
                    same("put", x.put(o, f, strength) ? 1 : 0, () -> m.put(o, f, strength));
                    break;
                case 1: same("turn", x.turn(c, on) ? 1 : 0, () -> m.turn(c, on)); break;
                case 2: same("pull", x.pull(c, on) ? 1 : 0, () -> m.pull(c, on)); break;
                case 3: same("days", x.days(n), () -> m.days(n)); break;
                case 4: same("chance", x.chance(n), () -> m.chance(n)); break;
                case 5:
                case 6: same("undo", x.undo() ? 1 : 0, m::undo); break;
                default:
                    int seed = n(0, 1, 5, -1, Integer.MIN_VALUE, Integer.MAX_VALUE, r.nextInt());
                    same("seed", x.seed(seed) ? 1 : 0, () -> m.seed(seed));
                    break;
            }
        }

        void find() {
            if (r.nextInt(3) != 0 && m.told.officers.size() > 0) {
                int rows = r.nextInt(12) == 0 ? n(0, 16, 17) : 1 + r.nextInt(3);
                int[] b = new int[Math.max(0, 3 * rows + (r.nextInt(12) == 0 ? n(-1, 1) : 0))];
                int of = r.nextInt(m.told.officers.size());
                World w = m.told.feelings.isEmpty() ? null : m.alone(of, 0, 1 + r.nextInt(99));
                int day = 0;
                for (int k = 0; k + 2 < b.length; k += 3) {
                    int d = Math.min(30, day + r.nextInt(3));
                    for (; day < d && w != null; day++) {
                        w.felt = m.after(w);
                        w.day++;
                    }
                    b[k] = r.nextInt(20) == 0 ? n(30, 31, 255, 12) : day;
                    b[k + 1] = r.nextInt(40) == 0 ? n(8, 255) : r.nextInt(m.told.officers.size());
                    b[k + 2] = r.nextInt(10) == 0 || w == null ? n(0, 99, 100, 255, 7) : b[k + 1] < w.felt.length ? w.felt[b[k + 1]][0] : 0;
                }
                write(b);
                same("discover", x.discover(), m::discover);
            }
            int f = f(), what = n(0, 1, 2, 3, -1), k = n(-1, -1, 0, 1, 5, 50, r.nextInt(400), -2, 800);
            same("sources", x.sources(f, -1), () -> m.sources(f, -1));
            same("sources", x.sources(f, k), () -> m.sources(f, k));
            if (r.nextInt(3) == 0) {
                same("tells", x.tells(f, what), () -> m.tells(f, what));
                same("tells", x.tells(f, 2), () -> m.tells(f, 2));
            }
        }

        void picture() {
            same("image", x.image(), m::image);
            for (int k = -1; k <= m.image.length; k++) {
                int at = k;
                if (r.nextInt(6) == 0 || at < 0 || at >= m.image.length - 1) {
                    same("octet", x.octet(at), () -> m.octet(at));
                }
            }
            if (r.nextInt(2) == 0) {
                int[] b = m.image.clone();
                int way = r.nextInt(5);
                if (way == 0) {
                    b[r.nextInt(b.length)] = n(0, 1, 2, 3, 99, 100, 255);
                }
                if (way == 1) {
                    b = Arrays.copyOf(b, Math.max(0, b.length + n(-1, 1)));
                }
                if (way >= 3) {
                    change(b);
                }
                write(b);
                same("on", x.on() ? 1 : 0, m::on);
            }
        }

        /** Other octets, with the last one made to fit. */
        void change(int[] b) {
            int day = n(0, 998, 999, 1000, 970, 990, 65535, 256);
            b[0] = day >> 8;
            b[1] = day & 255;
            for (int k = 2; k < b.length - 1; k++) {
                if (r.nextInt(4) == 0) {
                    b[k] = k < 2 + 2 * m.told.carbons.size() ? r.nextInt(2) : r.nextInt(100);
                }
                if (r.nextInt(60) == 0) {
                    b[k] = n(2, 100, 255);
                }
            }
            int c = 241;
            for (int k = 0; k < b.length - 1; k++) {
                c = (3 * c + b[k]) % 251;
            }
            b[b.length - 1] = c;
        }

        void tapeEdges() {
            int k = n(-1, 0, 1, 19, 20, 21, 1600, 1601, Integer.MIN_VALUE);
            same("end", x.end(k) ? 1 : 0, () -> m.end(k));
            if (r.nextInt(8) == 0) {
                for (int i = 0; i < 82; i++) {
                    same("feed", x.feed(i, -i, i << 8, i << 24, 7), feeding(i));
                }
            }
            int what = n(-1, 2, 3);
            same("fault", x.fault(what), () -> -1);
        }

        LongSupplier feeding(int i) {
            return () -> m.feed(i, -i, i << 8, i << 24, 7);
        }

        void go() {
            if (r.nextInt(6) != 0) {
                readMinistry();
            }
            // The last round may make some 90 calls, the look around behind it 50: 512 at most.
            while (made < 360 && !broken) {
                switch (r.nextInt(20)) {
                    case 0: readMinistry(); break;
                    case 1: case 2: case 3: askSomething(); break;
                    case 4: lookAround(); break;
                    case 5: case 6: case 7: case 8: lookAhead(); break;
                    case 9: find(); break;
                    case 10: picture(); break;
                    case 11: tapeEdges(); break;
                    default: act(); break;
                }
            }
            lookAround();
        }
    }
}
