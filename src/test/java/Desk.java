import java.io.IOException;
import java.io.UncheckedIOException;
import java.nio.charset.StandardCharsets;
import java.nio.file.Files;
import java.nio.file.Path;
import java.util.ArrayList;
import java.util.List;
import java.util.regex.MatchResult;
import java.util.regex.Pattern;

/**
 * What the tests of edges share: the tape, the sentences of the document, answers that are due, and calls that must
 * leave all as it is. Runs from the project's root.
 */
class Desk {
    static final int NONE = -1;
    static final long NOTHING = -1000000000000000L;
    static final int LOW = Integer.MIN_VALUE;
    static final int HIGH = Integer.MAX_VALUE;
    static final String OFFICE = "officer mini shape 3 press 5;officer sec shape 1 press 2;"
        + "officer lad shape 7 press 0;feeling joy;feeling woe;carbon mini to sec sheets 2;"
        + "carbon sec to lad sheets 3;carbon mini to lad sheets 5;felt joy of mini is 60;felt woe of lad is 30;"
        + "passes strength/sheets+press;fades feel/3;acts feel>30 and feeling<1;slip 50;";

    interface Call {
        long of(CarbonMinistry x);
    }

    interface Maker {
        CarbonMinistry make();
    }

    private static final String DOCUMENT = document();
    private static final boolean[] named = new boolean[DOCUMENT.length()];
    private static String sentence = "";
    private static int sentences = 0;
    private static int answers = 0;
    private static int wrong = 0;

    // ---- the document and its sentences

    private static String document() {
        return fileText("../shared/DOC.md").replaceAll("```(text|java)?", " ").replaceAll("\\s+", " ");
    }

    static String fileText(String path) {
        try {
            return Files.readString(Path.of(path), StandardCharsets.UTF_8);
        } catch (IOException e) {
            throw new UncheckedIOException(e);
        }
    }

    /** Where a part of the document starts and where it stops; what stands ahead of the first one is the part "". */
    private static int[] bounds(String part) {
        int from = part.isEmpty() ? 0 : DOCUMENT.indexOf("## " + part);
        int to = from < 0 ? 0 : DOCUMENT.indexOf(" ## ", from);
        return new int[] {Math.max(from, 0), to < 0 ? DOCUMENT.length() : to};
    }

    /** All words in a part of the document that match, from the first to the last. */
    static List<String> found(String part, String pattern) {
        int[] bounds = bounds(part);
        return Pattern.compile(pattern).matcher(DOCUMENT.substring(bounds[0], bounds[1])).results()
            .map(MatchResult::group).toList();
    }

    /** What is tested from here on: words that stand once in the document, in the part that is named. */
    static void sentence(String part, String words) {
        sentence = part + ", '" + words + "'";
        sentences++;
        int from = bounds(part)[0];
        String text = DOCUMENT.substring(from, bounds(part)[1]);
        int at = text.indexOf(words);
        if (at < 0 || text.indexOf(words, at + 1) >= 0) {
            complain("is not a sentence that stands there once");
            return;
        }
        for (int k = 0; k < words.length(); k++) {
            named[from + at + k] = true;
        }
    }

    /** What is tested from here on: a promise as a whole. */
    static void promise(int n) {
        sentence = "Promise " + n;
        sentences++;
    }

    /** From the one words of the document to the others, each word must stand in a sentence that was tested. */
    static void allIsNamed(String from, String to) {
        int start = DOCUMENT.indexOf(from);
        int stop = DOCUMENT.indexOf(to, start);
        if (start < 0 || stop < 0) {
            complain("the document is without '" + from + "' or, behind it, '" + to + "'");
            return;
        }
        allIsNamed(start, stop, "the document from '" + from + "' on");
    }

    private static void allIsNamed(int start, int stop, String what) {
        StringBuilder left = new StringBuilder();
        for (int k = start; k < stop; k++) {
            boolean counts = !named[k] && Character.isLetterOrDigit(DOCUMENT.charAt(k));
            left.append(counts ? DOCUMENT.charAt(k) : ' ');
        }
        String words = left.toString().trim().replaceAll("\\s+", " ");
        sentence = what;
        if (!words.isEmpty()) {
            complain("has words that no test names: " + words);
        }
    }

    /** Each word behind the face of a promise must stand in a sentence that was tested. */
    static void allPromisesAreNamed() {
        for (int n = 1; n <= 34; n++) {
            int at = DOCUMENT.indexOf("`: ", DOCUMENT.indexOf("## Promise " + n + ":"));
            int next = DOCUMENT.indexOf(n < 34 ? "## Promise " + (n + 1) + ":" : "## Not promised");
            allIsNamed(DOCUMENT.substring(at, next), DOCUMENT.substring(next, next + 14));
        }
    }

    /** From its first line to its last each word of the document must stand in a sentence that was tested. */
    static void allOfItIsNamed() {
        allIsNamed(0, DOCUMENT.length(), "the document");
    }

    private static void complain(String what) {
        wrong++;
        System.out.println(sentence + ": " + what);
    }

    static void due(String call, long got, long want) {
        answers++;
        if (got != want) {
            complain(call + " answered " + got + ", due is " + want);
        }
    }

    static void due(String call, boolean got, boolean want) {
        due(call, bit(got), bit(want));
    }

    static long bit(boolean is) {
        return is ? 1 : 0;
    }

    static void finish() {
        System.out.println(sentences + " parts of the document, " + answers + " answers, " + wrong + " wrong");
        if (wrong != 0 || answers == 0) {
            System.exit(1);
        }
    }

    // ---- the tape

    static void put(CarbonMinistry x, int... octets) {
        x.end(0);
        for (int k = 0; k < octets.length; k += 20) {
            int[] n = new int[5];
            for (int j = 0; j < 20; j++) {
                n[j / 4] = n[j / 4] << 8 | (k + j < octets.length ? octets[k + j] & 255 : ' ');
            }
            x.feed(n[0], n[1], n[2], n[3], n[4]);
        }
        x.end(octets.length);
    }

    static void put(CarbonMinistry x, String text) {
        put(x, text.chars().toArray());
    }

    static int read(CarbonMinistry x, String text) {
        put(x, text);
        return x.ministry();
    }

    static CarbonMinistry of(String text) {
        CarbonMinistry x = new CarbonMinistry();
        if (read(x, text) < 0) {
            due("ministry of " + text + " at " + x.fault(1), x.fault(0), 0);
        }
        return x;
    }

    static long ask(CarbonMinistry x, String text) {
        put(x, text);
        return x.ask();
    }

    static int discover(CarbonMinistry x, int... octets) {
        put(x, octets);
        return x.discover();
    }

    static boolean on(CarbonMinistry x, int... octets) {
        put(x, octets);
        return x.on();
    }

    /** The octets with one behind them that makes them fit, as an image has it. */
    static int[] sealed(int... octets) {
        int[] b = java.util.Arrays.copyOf(octets, octets.length + 1);
        int c = 241;
        for (int octet : octets) {
            c = (3 * c + octet) % 251;
        }
        b[octets.length] = c;
        return b;
    }

    /** Another DAY by an image, all else as it is; nothing is KEPT or can be undone then. */
    static void goTo(CarbonMinistry x, int day) {
        int[] b = new int[x.image() - 1];
        for (int k = 0; k < b.length; k++) {
            b[k] = k == 0 ? day >> 8 : k == 1 ? day & 255 : x.octet(k);
        }
        due("on, to go to DAY " + day, on(x, sealed(b)), true);
        due("has(3)", x.has(3), day);
    }

    static String times(String piece, int n) {
        return piece.repeat(n);
    }

    /** So many officers a, b, ..: shapes 0, 1, .., presses 9, 8, .. */
    static String lettered(int officers) {
        StringBuilder b = new StringBuilder();
        for (int k = 0; k < officers; k++) {
            b.append("officer ").append((char) ('a' + k)).append(" shape ").append(k).append(" press ").append(9 - k)
                .append(';');
        }
        return b.toString();
    }

    // ---- calls that leave all as it is

    /** An office in the midst of its work: with acts, things kept and found, an image, another seed, a full tape. */
    static CarbonMinistry busy() {
        CarbonMinistry x = of(OFFICE);
        x.seed(77);
        x.days(2);
        x.turn(1, 1);
        x.image();
        x.pull(2, 0);
        x.put(0, 1, 44);
        discover(x, 1, 1, 3, 0, 2, 0);
        ask(x, "total 1+");
        put(x, "total feels 1");
        return x;
    }

    /** A call that is refused: it is counted there alone, and all is as on an object on which it was not made. */
    static void refused(int kind, String name, Call call, long answer) {
        refused(kind, name, Desk::busy, call, answer);
    }

    static void refused(int kind, String name, Maker made, Call call, long answer) {
        CarbonMinistry with = made.make();
        CarbonMinistry without = made.make();
        due(name, call.of(with), answer);
        alike(kind, name, with, without);
    }

    /** A question that has no answer: it isn't counted, and all stays. */
    static void none(String name, Call call) {
        refused(NONE, name, call, NONE);
    }

    /** A call that may answer as it likes, but leaves all as it is. */
    static void leavesAll(String name, Call call) {
        CarbonMinistry with = busy();
        CarbonMinistry without = busy();
        call.of(with);
        alike(NONE, name, with, without);
    }

    /** A call that takes the tape and is refused: all else is as on an object on which the tape was made empty. */
    static void refusedTape(int kind, String name, Call call, long answer, int... octets) {
        CarbonMinistry with = busy();
        CarbonMinistry without = busy();
        put(with, octets);
        due(name, call.of(with), answer);
        without.end(0);
        alike(kind, name, with, without);
    }

    /** A call that takes the tape and leaves all else as it is, but for the fault. */
    static void leavesAllButFault(String name, Call call) {
        CarbonMinistry with = busy();
        CarbonMinistry without = busy();
        call.of(with);
        without.end(0);
        counted(NONE, name, with, without);
        likeShown(name, with, without);
    }

    /** The text of a ministry with an @ at the place of its fault. */
    static void faulty(int kind, String marked) {
        String name = "ministry of " + marked;
        CarbonMinistry with = busy();
        CarbonMinistry without = busy();
        due(name, read(with, marked.replace("@", "")), NONE);
        due("fault(0) of " + marked, with.fault(0), kind);
        due("fault(1) of " + marked, with.fault(1), marked.indexOf('@'));
        without.end(0);
        counted(1, name, with, without);
        likeShown(name, with, without);
    }

    /** The text of a question with an @ at the place of its fault; it is not counted. */
    static void puzzled(int kind, String marked) {
        String name = "ask of " + marked;
        CarbonMinistry with = busy();
        CarbonMinistry without = busy();
        due(name, ask(with, marked.replace("@", "")), NOTHING);
        due("fault(0) of " + marked, with.fault(0), kind);
        due("fault(1) of " + marked, with.fault(1), marked.indexOf('@'));
        without.end(0);
        counted(NONE, name, with, without);
        likeShown(name, with, without);
    }

    /** An ACT that is done with an office at work: of all that it shows, what starts so changes, and nothing else does. */
    static void changesOnly(String name, Call call, String... changed) {
        CarbonMinistry x = busy();
        x.put(0, 0, 77);
        x.put(0, 1, 45);
        List<String> before = all(x);
        due(name + " is done", call.of(x) > 0, true);
        List<String> behind = all(x);
        boolean[] seen = new boolean[changed.length];
        for (int k = 0; k < Math.max(before.size(), behind.size()); k++) {
            String was = k < before.size() ? before.get(k) : "";
            String is = k < behind.size() ? behind.get(k) : "";
            boolean may = was.equals(is);
            for (int i = 0; i < changed.length; i++) {
                if (!was.equals(is) && (was + is).startsWith(changed[i])) {
                    seen[i] = true;
                    may = true;
                }
            }
            due("behind " + name + " " + was + " is " + is, may, true);
        }
        for (int i = 0; i < changed.length; i++) {
            due("by " + name + " " + changed[i] + " changes", seen[i], true);
        }
    }

    /** All that an object shows now and that no call ahead or question works out: a line for each. */
    private static List<String> all(CarbonMinistry x) {
        List<String> all = new ArrayList<>();
        for (int k = 0; k < 10; k++) {
            all.add("has(" + k + ") " + x.has(k));
        }
        for (int o = 0; o < x.has(0); o++) {
            for (int k = 0; k < 6; k++) {
                all.add("letter(0, " + o + ", " + k + ") " + x.letter(0, o, k));
                all.add("officer(" + o + ", " + k + ") " + x.officer(o, k));
                all.add("feels(" + o + ", " + k + ") " + x.feels(o, k));
            }
        }
        for (int c = 0; c < x.has(2); c++) {
            for (int k = 0; k < 5; k++) {
                all.add("carbon(" + c + ", " + k + ") " + x.carbon(c, k));
            }
        }
        for (int k = 0; k < 6; k++) {
            all.add("status(" + k + ") " + x.status(k));
            all.add("fault(" + k + ") " + x.fault(k));
        }
        for (int k = 0; k < 16; k++) {
            all.add("octet(" + k + ") " + x.octet(k));
        }
        // What is KEPT comes last, as it may be more then.
        for (int k = 0; k < x.has(7); k++) {
            all.add("kept(" + k + ") " + x.kept(k, 0) + " " + x.kept(k, 1) + " " + x.kept(k, 2) + " " + x.kept(k, 3));
        }
        return all;
    }

    /** That the one shows what the other shows, with so many more refusals of a kind; uses both up. */
    static void alike(int kind, String name, CarbonMinistry with, CarbonMinistry without) {
        counted(kind, name, with, without);
        due("fault(0) behind " + name, with.fault(0), without.fault(0));
        due("fault(1) behind " + name, with.fault(1), without.fault(1));
        likeShown(name, with, without);
    }

    private static void counted(int kind, String name, CarbonMinistry with, CarbonMinistry without) {
        for (int k = 0; k < 6; k++) {
            due("status(" + k + ") behind " + name, with.status(k), without.status(k) + (k == kind ? 1 : 0));
        }
    }

    private static void likeShown(String name, CarbonMinistry with, CarbonMinistry without) {
        List<String> one = shown(with);
        List<String> other = shown(without);
        answers++;
        for (int k = 0; k < Math.min(one.size(), other.size()); k++) {
            if (!one.get(k).equals(other.get(k))) {
                complain("behind " + name + " it shows " + one.get(k) + ", without it " + other.get(k));
                return;
            }
        }
        if (one.size() != other.size()) {
            complain("behind " + name + " it shows more, or less");
        }
    }

    /** All that a small object shows, but faults and refusals; acts and days by the seed come last, as they change it. */
    private static List<String> shown(CarbonMinistry x) {
        List<String> all = new ArrayList<>();
        showWorld(all, x);
        showAhead(all, x);
        for (int k = -1; k <= 16; k++) {
            all.add("octet(" + k + ") " + x.octet(k));
        }
        all.add("feed " + x.feed(0x20202020, 0x20202020, 0x20202020, 0x20202020, 0x20202020));
        all.add("ask " + x.ask() + " " + x.fault(0) + " " + x.fault(1));
        all.add("image " + x.image() + " " + x.octet(1) + " " + x.octet(14));
        all.add("chance " + (x.has(3) < 990 ? x.chance(7) : NONE) + " " + x.has(5));
        for (int k = 0; k < 21; k++) {
            all.add("undo " + x.undo() + " " + x.has(3) + " " + x.has(4) + " " + x.has(5) + " " + x.has(6) + " "
                + x.has(7) + " " + x.has(9));
        }
        return all;
    }

    private static void showWorld(List<String> all, CarbonMinistry x) {
        for (int k = 0; k < 10; k++) {
            all.add("has(" + k + ") " + x.has(k));
        }
        for (int o = 0; o < x.has(0); o++) {
            all.add("officer " + o + " " + x.letter(0, o, 0) + " " + x.letter(0, o, 5) + " " + x.officer(o, 0) + " "
                + x.officer(o, 1) + " " + x.officer(o, 2) + " " + x.officer(o, 3));
            for (int f = 0; f < x.has(1); f++) {
                all.add("feels(" + o + ", " + f + ") " + x.feels(o, f));
            }
        }
        for (int c = 0; c < x.has(2); c++) {
            all.add("carbon " + c + " " + x.carbon(c, 0) + " " + x.carbon(c, 1) + " " + x.carbon(c, 2) + " "
                + x.carbon(c, 3) + " " + x.carbon(c, 4) + " " + x.passes(c, 0) + " " + x.passes(c, 1));
        }
        for (int k = 0; k < x.has(7); k++) {
            all.add("kept " + k + " " + x.kept(k, 0) + " " + x.kept(k, 1) + " " + x.kept(k, 2) + " " + x.kept(k, 3));
        }
    }

    private static void showAhead(List<String> all, CarbonMinistry x) {
        all.add("settles " + x.settles() + " " + x.acted(3));
        for (int f = 0; f < x.has(1); f++) {
            all.add("feeling " + f + " " + x.letter(1, f, 0) + " " + x.strongest(f, 1) + " " + x.later(1, f, 2) + " "
                + x.turning(0, f, 9, 2) + " " + x.sources(f, NONE) + " " + x.sources(f, 0) + " " + x.tells(f, 0) + " "
                + x.tells(f, 1) + " " + x.tells(f, 2));
        }
        for (int o = 0; o < x.has(0); o++) {
            all.add("from " + o + " " + x.steps(0, o) + " " + x.steps(o, 2) + " " + x.cutting(0, o) + " "
                + x.cutting(o, 2));
        }
    }
}
