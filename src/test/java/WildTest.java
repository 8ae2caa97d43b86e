import java.util.Random;

/**
 * Calls with any arguments in any state: none throws (LANGUAGE.md, rule 7), and no answer is beyond what the document lets
 * it be. The runs are drawn, but always the same ones.
 */
public final class WildTest {
    private static final int RUNS = 400;
    private static final int CALLS = 512;
    private static final String[] PIECES = {"officer ", "feeling ", "carbon ", "felt ", "passes ", "fades ", "acts ", "slip ",
        "shape ", "press ", "to ", "sheets ", "of ", "is ", "strength ", "feel ", "day ", "number ", "feels ", "steps ", "or ",
        "and ", "not ", "all ", "min ", "max ", "first ", "last ", "often ", "total ", "most ", "least ", "a ", "b ", "j ", "k ",
        "abcdefg ", "1 ", "0 ", "99 ", "9999 ", "12345 ", "( ", ") ", "[ ", "] ", "+ ", "- ", "* ", "/ ", "< ", "> ", "= ", ", ",
        "; ", "\n", "\u0000", "\u00ff"};
    private static final String[] LAWS = {"", "passes strength*2/3;", "passes day-strength+9999*9999;", "fades feel-1;",
        "fades feel*day/7-press*9999;", "acts all;", "acts feel>3 and not feeling=1;", "slip 50;", "slip 100;"};

    private final Random drawn;
    private final CarbonMinistry x = new CarbonMinistry();
    private int made = 0;

    private WildTest(long seed) {
        drawn = new Random(seed);
    }

    public static void main(String[] args) {
        int calls = 0;
        for (int run = 0; run < RUNS; run++) {
            WildTest one = new WildTest(run);
            try {
                one.run();
            } catch (RuntimeException | StackOverflowError e) {
                System.out.println("run " + run + ", call " + one.made + ": " + e);
                System.exit(1);
            }
            calls += one.made;
        }
        System.out.println(RUNS + " wild runs, " + calls + " calls, nothing thrown");
    }

    private void run() {
        while (made < CALLS - 90) {
            if (drawn.nextInt(40) == 0) {
                tape(ministry());
                within("ministry", x.ministry(), -1, 60);
            } else if (drawn.nextInt(12) == 0) {
                tape(anyText());
                take();
            } else {
                ask(drawn.nextInt(32));
            }
            made++;
        }
    }

    private int any() {
        int[] odd = {-1, 0, 1, 2, 3, 4, 5, 7, 8, 9, 11, 12, 20, 21, 40, 59, 60, 61, 99, 100, 101, 999, 1000, 1600, 1601,
            Integer.MAX_VALUE, Integer.MIN_VALUE};
        return drawn.nextInt(9) == 0 ? drawn.nextInt() : odd[drawn.nextInt(odd.length)];
    }

    private int few() {
        return drawn.nextInt(5) == 0 ? any() : drawn.nextInt(8);
    }

    private String ministry() {
        StringBuilder b = new StringBuilder();
        int officers = drawn.nextInt(9);
        int feelings = drawn.nextInt(5);
        for (int k = 0; k < officers; k++) {
            b.append("officer ").append((char) ('a' + k)).append(" shape ").append(k).append(" press ").append(k % 3).append(';');
        }
        for (int k = 0; k < feelings; k++) {
            b.append("feeling ").append((char) ('w' + k)).append(';');
        }
        for (int k = 0; officers > 1 && k < 12; k++) {
            int from = drawn.nextInt(officers);
            int to = (from + 1 + drawn.nextInt(officers - 1)) % officers;
            b.append("carbon ").append((char) ('a' + from)).append(" to ").append((char) ('a' + to)).append(" sheets 1;");
        }
        for (int k = 0; k < officers * feelings; k += 3) {
            b.append("felt ").append((char) ('w' + k % feelings)).append(" of ").append((char) ('a' + k / feelings))
                .append(" is ").append(1 + drawn.nextInt(99)).append(';');
        }
        for (int k = 0; k < 3; k++) {
            b.append(LAWS[drawn.nextInt(LAWS.length)]);
        }
        return b.toString();
    }

    private String anyText() {
        StringBuilder b = new StringBuilder();
        int pieces = drawn.nextInt(60);
        boolean bytes = drawn.nextInt(3) == 0;
        for (int k = 0; k < pieces; k++) {
            b.append(bytes ? String.valueOf((char) drawn.nextInt(drawn.nextBoolean() ? 3 : 256)) : PIECES[drawn.nextInt(PIECES.length)]);
        }
        return b.toString();
    }

    private void tape(String text) {
        x.end(0);
        int[] n = new int[5];
        for (int k = 0; k < text.length(); k += 20) {
            for (int j = 0; j < 20; j++) {
                n[j / 4] = n[j / 4] << 8 | (k + j < text.length() ? text.charAt(k + j) : 0);
            }
            within("feed", x.feed(n[0], n[1], n[2], n[3], n[4]), -1, 1600);
            made++;
        }
        x.end(text.length());
        made += 2;
    }

    private void take() {
        switch (drawn.nextInt(4)) {
            case 0 -> within("ministry", x.ministry(), -1, 60);
            case 1 -> within("discover", x.discover(), -1, 16);
            case 2 -> x.on();
            default -> ask();
        }
    }

    private void ask() {
        long answer = x.ask();
        if (answer != CarbonMinistry.NOTHING) {
            within("ask", answer, -8000000, 8000000);
        }
        within("fault(0)", x.fault(0), 0, 5);
        within("fault(1)", x.fault(1), -1, 1600);
        made += 2;
    }

    private void ask(int call) {
        switch (call) {
            case 0 -> within("feed", x.feed(any(), any(), any(), any(), any()), -1, 1600);
            case 1 -> x.end(any());
            case 2 -> within("fault", x.fault(any()), -1, 1600);
            case 3 -> within("has", x.has(few()), -1, 32 * 99);
            case 4 -> within("letter", x.letter(few(), few(), few()), -1, 26);
            case 5 -> within("officer", x.officer(few(), few()), -1, 12);
            case 6 -> within("carbon", x.carbon(few(), few()), -1, 9);
            case 7 -> within("feels", x.feels(few(), few()), -1, 99);
            case 8 -> within("passes", x.passes(few(), few()), -1, 99);
            case 9 -> within("kept", x.kept(few(), few()), -1, 998);
            case 10 -> within("later", x.later(few(), few(), any()), -1, 99);
            case 11 -> within("settles", x.settles(), -1, 59);
            case 12 -> within("strongest", x.strongest(few(), any()), -1, 7);
            case 13 -> within("acted", x.acted(any()), -1, 60 * 32);
            case 14 -> within("turning", x.turning(few(), few(), any(), few()), -1, 4095);
            case 15 -> within("steps", x.steps(few(), few()), -1, 7);
            case 16 -> within("cutting", x.cutting(few(), few()), -1, 12);
            case 17 -> within("sources", x.sources(few(), any()), -1, 799);
            case 18 -> within("tells", x.tells(few(), few()), -1, 792);
            case 19, 20 -> x.put(few(), few(), any());
            case 21 -> x.turn(few(), few() % 2);
            case 22 -> x.pull(few(), few() % 2);
            case 23 -> within("days", x.days(any()), -1, 3200);
            case 24 -> within("chance", x.chance(any()), -1, 100);
            case 25 -> x.undo();
            case 26 -> x.seed(any());
            case 27 -> within("image", x.image(), 3, 59);
            case 28 -> within("octet", x.octet(few()), -1, 255);
            case 29 -> within("status", x.status(few()), -1, CALLS);
            case 30 -> take();
            default -> image();
        }
    }

    /** An image taken up again, now and then with a byte made another. */
    private void image() {
        int size = x.image();
        StringBuilder b = new StringBuilder();
        for (int k = 0; k < size; k++) {
            b.append((char) (drawn.nextInt(200) == 0 ? drawn.nextInt(256) : x.octet(k)));
        }
        made += size + 1;
        tape(b.toString());
        x.on();
    }

    private void within(String call, long answer, long least, long most) {
        if (answer < least || answer > most) {
            System.out.println(call + " answered " + answer + ", which is beyond " + least + " .. " + most);
            System.exit(1);
        }
    }
}
