/** The sentences of the promises, call by call: the last value inside, the first outside, and all staying as it is. */
final class EdgeCalls extends Desk {
    private static final String AB = "officer a shape 1 press 1;officer b shape 1 press 1;feeling j;";
    private static final String A_TO_B = "carbon a to b sheets 1;";
    private static final int[] BAD_OFFICERS = {-1, 3, 8, HIGH, LOW};
    private static final int[] BAD_FEELINGS = {-1, 2, 4, HIGH, LOW};
    private static final int[] BAD_CARBONS = {-1, 3, 12, HIGH, LOW};

    private EdgeCalls() {
    }

    static void run() {
        constantsAndCalls();
        newObject();
        feed();
        end();
        ministry();
        fault();
        has();
        letter();
        officerAndCarbon();
        feelsAndPasses();
        keptOnes();
        later();
        settles();
        strongestAndActed();
        turning();
        stepsAndCutting();
        discoverRows();
        sources();
        tells();
        put();
        turnAndPull();
        days();
        chance();
        undo();
        seed();
        askAny();
        images();
        on();
        status();
        questionsLeaveAll();
        allPromisesAreNamed();
    }

    private static void constantsAndCalls() {
        sentence("Terms", "The constants: `NONE = -1`: There is none; it is refused.");
        due("NONE", CarbonMinistry.NONE, -1);
        due("there is none", new CarbonMinistry().feels(0, 0), CarbonMinistry.NONE);
        due("it is refused", new CarbonMinistry().days(0), CarbonMinistry.NONE);

        sentence("Terms", "`NOTHING = -1000000000000000L`: Told where a number below 0 may be one.");
        due("NOTHING", CarbonMinistry.NOTHING, -1000000000000000L);
        due("ask of nothing", new CarbonMinistry().ask(), CarbonMinistry.NOTHING);
        due("ask of a number below 0", ask(of(AB), "total 0-1"), -2);

        sentence("What it is", "An object is used for at most 512 calls after it has been made; what later calls answer is free.");
        CarbonMinistry x = new CarbonMinistry();
        String text = AB + times(A_TO_B, 12) + "felt j of b is 9;fades feel;acts all;";
        int made = (text.length() + 19) / 20 + 3;
        due("ministry", read(x, text), 18);
        for (; made < 506; made++) {
            due("turning", x.turning(0, 0, 96, 1), 4095);
        }
        for (; made < 510; made++) {
            due("days", x.days(100), 100);
        }
        due("the 511th call", x.has(7), 40);
        due("the 512th call", x.feels(1, 0), 9);
    }

    private static void newObject() {
        sentence("Promise 1", "No officers, no feelings.");
        CarbonMinistry x = new CarbonMinistry();
        for (int k = 0; k < 10; k++) {
            due("has(" + k + ")", x.has(k), 0);
        }
        for (int k = 0; k < 6; k++) {
            due("status(" + k + ")", x.status(k), 0);
        }
        due("letter", x.letter(0, 0, 0), NONE);
        due("letter", x.letter(1, 0, 0), NONE);
        due("officer", x.officer(0, 0), NONE);
        due("carbon", x.carbon(0, 0), NONE);
        due("fault(0)", x.fault(0), 0);
        due("fault(1)", x.fault(1), NONE);
        due("octet", x.octet(0), NONE);
        due("end(0)", x.end(0), true);
        due("end(1)", x.end(1), false);
        due("undo", x.undo(), false);
        due("settles", x.settles(), 0);
        due("acted", x.acted(60), 0);
        due("image", x.image(), 3);
        due("days", x.days(100), 0);
        due("chance", x.chance(100), 0);
        due("has(3)", x.has(3), 200);
        due("has(9)", x.has(9), 2);
    }

    // ---- the tape and the ministry

    private static void feed() {
        sentence("Promise 2", "Twenty bytes come behind those on the tape, of each number the highest first: how many there are");
        for (int k = 0; k < 40; k++) {
            int[] n = {0x20202020, 0x20202020, 0x20202020, 0x20202020, 0x20202020};
            int[] spoilt = n.clone();
            spoilt[k % 20 / 4] |= 0xff << 8 * (3 - k % 4);
            int[] one = k < 20 ? spoilt : n;
            int[] two = k < 20 ? n : spoilt;
            CarbonMinistry x = new CarbonMinistry();
            due("feed", x.feed(one[0], one[1], one[2], one[3], one[4]), 20);
            due("feed", x.feed(two[0], two[1], two[2], two[3], two[4]), 40);
            due("ministry", x.ministry(), NONE);
            due("the place of byte 255", x.fault(1), k);
        }
        CarbonMinistry y = new CarbonMinistry();
        // The octets 0, 1, .. of an image, those above 127 too.
        y.feed(0x00a0a100, 0, 0, 0, 0);
        due("end", y.end(2), true);
        due("on of 0, 160", y.on(), false);
        due("feed of numbers below 0", y.feed(0x0000a1ff, -1, LOW, HIGH, -2), 20);
        due("end", y.end(3), true);
        due("on of 0, 0, 161", y.on(), true);

        changesOnly("feed", z -> z.feed(1, 2, 3, 4, 5));

        sentence("Promise 2", "; NONE, refused (0), if there would be more than 1600.");
        CarbonMinistry z = new CarbonMinistry();
        for (int k = 1; k <= 80; k++) {
            due("feed", z.feed(0, 0, 0, 0, 0), 20 * k);
        }
        due("feed to 1620", z.feed(0, 0, 0, 0, 0), NONE);
        due("status(0)", z.status(0), 1);
        due("1600 stay", z.end(1600), true);
        due("feed to 1620", z.feed(0, 0, 0, 0, 0), NONE);
        due("end", z.end(1581), true);
        due("feed to 1601", z.feed(0, 0, 0, 0, 0), NONE);
        due("1581 stay", z.end(1582), false);
        due("end", z.end(1580), true);
        due("feed to 1600", z.feed(0, 0, 0, 0, 0), 1600);
        due("status(0)", z.status(0), 4);
        String full = "total 1" + times("+1", 796) + " ";
        refused(0, "feed to 1620", () -> withTape(full), x -> x.feed(1, 1, 1, 1, 1), NONE);
        refused(0, "feed to 1601", () -> withTape(full.substring(0, 1581)), x -> x.feed(1, 1, 1, 1, 1), NONE);
        due("ask of 1600", ask(of(AB), full), 2 * 797);
    }

    private static CarbonMinistry withTape(String text) {
        CarbonMinistry x = busy();
        put(x, text);
        return x;
    }

    private static void end() {
        sentence("Promise 3", "The tape has its first n bytes alone: true");
        String text = "total 1234+1";
        long[] answers = {NOTHING, 2 * 1, 2 * 12, 2 * 123, 2 * 1234, NOTHING, 2 * 1235};
        for (int n = 6; n <= text.length(); n++) {
            CarbonMinistry x = of(AB);
            put(x, text);
            due("end(" + n + ")", x.end(n), true);
            due("ask of " + n, x.ask(), answers[n - 6]);
        }
        CarbonMinistry y = of(AB);
        put(y, "total 1+1");
        due("end(7)", y.end(7), true);
        due("feed comes behind", y.feed(0x30303020, 0x20202020, 0x20202020, 0x20202020, 0x20202020), 27);
        due("ask", y.ask(), 2000);
        due("end(0) of none", y.end(0), true);
        put(y, "total 1");
        due("end(0)", y.end(0), true);
        due("ministry of none", y.ministry(), 0);

        changesOnly("end", z -> bit(z.end(7)));

        sentence("Promise 3", "; false, refused (0), if it has not so many");
        for (int n : new int[] {14, 15, 1600, 1601, HIGH}) {
            refused(0, "end(" + n + ") of 13", x -> bit(x.end(n)), 0);
        }
        due("end(13) of 13", busy().end(13), true);
        due("end(1) of none", new CarbonMinistry().end(1), false);

        sentence("Promise 3", ", or n is below 0.");
        for (int n : new int[] {-1, -13, LOW}) {
            refused(0, "end(" + n + ")", x -> bit(x.end(n)), 0);
        }
    }

    private static void ministry() {
        sentence("Promise 4", "The tape (it goes) is THE MINISTRY: how many STATEMENTS (0 without)");
        CarbonMinistry x = new CarbonMinistry();
        due("ministry of no tape", x.ministry(), 0);
        due("ministry of blanks", read(x, " \n "), 0);
        due("ministry of one", read(x, "slip 1;"), 1);
        due("the tape goes", x.end(1), false);
        due("ministry of 60", read(x, times("slip 1;", 60)), 60);
        due("ministry of OFFICE", read(x, OFFICE), 14);
        due("has(0)", x.has(0), 3);
        due("ministry of no tape", x.ministry(), 0);
        due("has(0)", x.has(0), 0);
        due("has(2)", x.has(2), 0);

        sentence("Promise 4", "; NONE, refused (1), with a FAULT (all stays).");
        faulty(1, "@x");
        faulty(1, OFFICE + "@x");
        faulty(2, "officer q shape 9 press 9;feeling y;passes 9;fades 9;acts all;slip 100;slip @101;");
        faulty(3, "officer q shape 9 press 9;officer @q");
        faulty(4, "passes ((((((@(");
        faulty(5, times("slip 100;", 60) + "@slip 100;");
        CarbonMinistry y = new CarbonMinistry();
        put(y, "officer");
        due("ministry", y.ministry(), NONE);
        due("the tape goes", y.end(1), false);
        due("status(1)", y.status(1), 1);
        due("none of it is told", y.has(0), 0);

        sentence("Promise 4", "Without one all is as at first, nothing is KEPT, FOUND or can be undone; the seed stays.");
        for (String text : new String[] {OFFICE, AB + A_TO_B + "felt j of a is 60;", ""}) {
            CarbonMinistry with = busy();
            due("has(7)", with.has(7) > 0, true);
            due("has(8)", with.has(8), 2);
            due("has(9)", with.has(9), 4);
            read(with, text);
            with.image();
            CarbonMinistry fresh = of(text);
            fresh.seed(77);
            fresh.image();
            alike(NONE, "ministry of '" + text + "' behind another", with, fresh);
        }
        oneBehindAnother();
        largeOnes();
        otherLaws();
        unlikeMany();
    }

    /** As much of laws as a tape holds, as often as 512 calls allow: none takes another's place. */
    private static void largeOnes() {
        CarbonMinistry x = new CarbonMinistry();
        String small = AB + A_TO_B + "felt j of a is 9;passes ";
        String large = small + times("1-1+", (1599 - small.length()) / 4 - 1) + "7;";
        String slow = small.replace("passes", "fades") + times("min(1,", 6) + "feel" + times(")", 6) + times("+0*feel", 180) + ";";
        for (int k = 0; k < 6; k++) {
            due("ministry of " + large.length() + " bytes", read(x, k % 3 == 2 ? slow : large), 6);
            due("passes", x.passes(0, 0), k % 3 == 2 ? 8 : 7);
            due("later", x.later(0, 0, 1), k % 3 == 2 ? 1 : 0);
        }
    }

    /** One MINISTRY behind another, each with laws of its own: what the ones ahead gave is forgotten. */
    private static void otherLaws() {
        CarbonMinistry x = new CarbonMinistry();
        for (int k = 0; k < 12; k++) {
            int n = k * 7 % 12;
            due("a FAULT between", read(x, AB + A_TO_B + "passes 1;fades 2;acts all;slip 100;" + n), NONE);
            read(x, AB + A_TO_B + "felt j of a is 99;felt j of b is 64;passes strength*" + n + "/12;fades feel*" + n + "/13;acts feel>" + n + ";");
            due("passes of law " + n, x.passes(0, 0), 99 * n / 12);
            due("fades of law " + n, x.later(0, 0, 1), 99 * n / 13);
            due("both by law " + n, x.later(1, 0, 1), Math.min(99, 99 * n / 12 + 64 * n / 13));
            due("fades of law " + n + " twice", x.later(0, 0, 2), 99 * n / 13 * n / 13);
        }
    }

    /** Fewer OFFICERS than FEELINGS, or more: each number is looked at among its own. */
    private static void unlikeMany() {
        CarbonMinistry x = of("officer a shape 1 press 1;feeling w;feeling x;feeling y;feeling z;felt z of a is 50;fades feel;");
        due("feels", x.feels(0, 3), 50);
        due("later", x.later(0, 3, 5), 50);
        due("strongest", x.strongest(3, 5), 0);
        due("turning", x.turning(0, 3, 50, 5), 0);
        due("sources", x.sources(3, NONE), 99);
        due("tells", x.tells(3, 2), 1);
        due("letter", x.letter(1, 3, 0), 26);
        due("put", x.put(0, 3, 51), true);
        due("letter of OFFICER 1", x.letter(0, 1, 0), NONE);
        due("feels of OFFICER 1", x.feels(1, 3), NONE);
        due("put of OFFICER 1", x.put(1, 3, 5), false);
        CarbonMinistry y = of(AB + times(A_TO_B, 3));
        due("carbon", y.carbon(2, 1), 1);
        due("passes", y.passes(2, 0), 0);
        due("turn", y.turn(2, 1), true);
        due("pull", y.pull(2, 0), true);
        due("letter of FEELING 1", y.letter(1, 1, 0), NONE);
        due("feels of FEELING 1", y.feels(1, 1), NONE);
        due("later of FEELING 1", y.later(1, 1, 0), NONE);
        due("strongest of FEELING 1", y.strongest(1, 0), NONE);
        due("turning of FEELING 1", y.turning(1, 1, 1, 0), NONE);
        due("sources of FEELING 1", y.sources(1, NONE), NONE);
        due("tells of FEELING 1", y.tells(1, 0), NONE);
        due("put of FEELING 1", y.put(1, 1, 5), false);
        due("passes of FEELING 1", y.passes(0, 1), NONE);
        due("steps to OFFICER 2", y.steps(0, 2), NONE);
        due("cutting to OFFICER 2", y.cutting(0, 2), NONE);
    }

    /** Whatever was told ahead of it, with a FAULT or without, a MINISTRY is as on a new object. */
    private static void oneBehindAnother() {
        String[] texts = {OFFICE, AB + A_TO_B + "felt j of a is 60;", "passes 9;fades 8;acts all;slip 100;", "",
            lettered(3) + "feeling j;feeling k;carbon c to a sheets 4;carbon b to c sheets 1;felt k of c is 70;felt j of b is 9;"
            + "fades feel-day;acts feeling=1;", AB + "felt j of b is 60;acts press=1;passes 3;fades day+9;slip 30;" + A_TO_B,
            "slip 3;", "feeling only;"};
        String wild = lettered(8) + "feeling w;feeling x;felt w of a is 99;felt x of h is 99;" + times("carbon h to a sheets 9;", 12)
            + "passes 99;fades 99;acts all;slip 100;";
        for (int k = 0; k < texts.length * texts.length; k++) {
            String text = texts[k % texts.length];
            CarbonMinistry with = new CarbonMinistry();
            read(with, texts[k / texts.length]);
            for (int more = 0; more < k % 4; more++) {
                read(with, more % 2 == 0 ? wild + "x" : wild);
            }
            int refused = with.status(1);
            due("ministry", read(with, text) >= 0, true);
            with.image();
            CarbonMinistry fresh = of(text);
            for (int more = 0; more < refused; more++) {
                fresh.discover();
            }
            fresh.image();
            alike(NONE, "ministry of '" + text + "' behind " + texts[k / texts.length], with, fresh);
        }
    }

    private static void fault() {
        sentence("Promise 5", "Of the latest ministry() or ask(): its FAULT (what 0; 0 without, and ahead of any)");
        CarbonMinistry x = new CarbonMinistry();
        due("ahead of any", x.fault(0), 0);
        String[] faulty = {"x", "slip 101;", "feeling a;feeling a;", "passes (((((((1", "acts all;acts all;"};
        for (int k = 0; k < 5; k++) {
            read(x, faulty[k]);
            due("fault(0)", x.fault(0), k + 1);
        }
        due("ask", ask(x, "often all"), 0);
        due("without, of ask", x.fault(0), 0);
        ask(x, "total (((((((1");
        due("of ask", x.fault(0), 4);
        read(x, AB);
        due("without, of ministry", x.fault(0), 0);
        due("without, of a question of all sorts", ask(x, "first not[feels(number)>min(steps 1,2)*3/(4+shape)-max(day,press)] "
            + "or all and 1=1"), 0);
        due("without, of ask", x.fault(0), 0);
        ask(x, "total (((((((1");
        due("without, of statements of all sorts", read(x, OFFICE), 14);
        due("without, of ministry", x.fault(0), 0);
        due("without, no place", x.fault(1), NONE);
        ask(x, "nothing");
        due("of ask", x.fault(0), 1);

        sentence("Promise 5", ", its place (1; NONE without).");
        CarbonMinistry y = new CarbonMinistry();
        due("ahead of any", y.fault(1), NONE);
        read(y, "x");
        due("the first place", y.fault(1), 0);
        ask(y, "first all");
        due("without", y.fault(1), NONE);
        ask(y, "first all x");
        due("of ask", y.fault(1), 10);
        read(y, "");
        due("without", y.fault(1), NONE);
        read(y, "passes 1" + times("+1", 795) + "  ");
        due("the last place, the text's length", y.fault(1), 1600);
        // discover() and on() have no FAULTS.
        read(y, " x");
        discover(y, 1);
        on(y, 1);
        due("fault(0)", y.fault(0), 1);
        due("fault(1)", y.fault(1), 1);

        sentence("Promise 5", "NONE for another what.");
        for (int what : new int[] {-1, 2, 3, HIGH, LOW}) {
            none("fault(" + what + ")", z -> z.fault(what));
            due("fault with a FAULT", y.fault(what), NONE);
        }
    }

    private static void has() {
        sentence("Promise 6", "How many there are: 0 OFFICERS, 1 FEELINGS, 2 CARBONS, 3 DAY, 4 CARBONS that are IN, "
            + "5 TURNED ones (IN or not), 6 all strengths together, 7 what is told as KEPT, 8 rows FOUND, "
            + "9 ACTS that can be undone.");
        CarbonMinistry x = of(lettered(4) + "feeling j;feeling k;" + times(A_TO_B, 5)
            + "felt j of a is 99;felt k of d is 98;felt k of a is 60;fades feel;passes 0;");
        dueHas(x, 4, 2, 5, 0, 5, 0, 257, 0, 0, 0);
        x.turn(1, 1);
        dueHas(x, 4, 2, 5, 0, 5, 1, 257, 0, 0, 1);
        x.pull(1, 0);
        dueHas(x, 4, 2, 5, 0, 4, 1, 257, 0, 0, 2);
        x.pull(2, 0);
        x.turn(2, 1);
        dueHas(x, 4, 2, 5, 0, 3, 2, 257, 0, 0, 4);
        x.put(2, 0, 1);
        dueHas(x, 4, 2, 5, 0, 3, 2, 258, 0, 0, 5);
        discover(x, 0, 0, 0, 1, 1, 1, 2, 2, 2);
        dueHas(x, 4, 2, 5, 0, 3, 2, 258, 0, 3, 5);
        x.days(2);
        dueHas(x, 4, 2, 5, 2, 3, 2, 258, 6, 3, 6);
        discover(x, 0, 0, 0);
        x.undo();
        dueHas(x, 4, 2, 5, 0, 3, 2, 258, 0, 1, 5);
        x.days(13);
        dueHas(x, 4, 2, 5, 13, 3, 2, 258, 39, 1, 6);
        x.days(1);
        dueHas(x, 4, 2, 5, 14, 3, 2, 258, 40, 1, 7);

        sentence("Promise 6", "NONE for others.");
        for (int what : new int[] {-1, 10, 11, HIGH, LOW}) {
            none("has(" + what + ")", y -> y.has(what));
        }
    }

    private static void dueHas(CarbonMinistry x, int... want) {
        for (int k = 0; k < 10; k++) {
            due("has(" + k + ")", x.has(k), want[k]);
        }
    }

    private static void letter() {
        sentence("Promise 7", "Letter k (0 .. 5) of the NAME of an OFFICER (kind 0), a FEELING (1): 1 .. 26; 0 behind it");
        String[][] names = {{"a", "zyxwvu", "mnopq"}, {"z", "abcdef"}};
        CarbonMinistry x = of("officer a shape 0 press 0;officer zyxwvu shape 0 press 0;officer mnopq shape 0 press 0;"
            + "feeling z;feeling abcdef;");
        for (int kind = 0; kind < 2; kind++) {
            for (int which = 0; which < names[kind].length; which++) {
                for (int k = 0; k < 6; k++) {
                    String name = names[kind][which];
                    due("letter(" + kind + ", " + which + ", " + k + ")", x.letter(kind, which, k),
                        k < name.length() ? name.charAt(k) - 'a' + 1 : 0);
                }
            }
        }

        sentence("Promise 7", "; NONE when there is none such.");
        for (int bad : new int[] {-1, 2, HIGH, LOW}) {
            none("letter of kind " + bad, y -> y.letter(bad, 0, 0));
        }
        for (int bad : new int[] {-1, 6, 7, HIGH, LOW}) {
            none("letter " + bad + " of an OFFICER", y -> y.letter(0, 0, bad));
            none("letter " + bad + " of a FEELING", y -> y.letter(1, 0, bad));
        }
        for (int bad : BAD_OFFICERS) {
            none("letter of OFFICER " + bad, y -> y.letter(0, bad, 0));
        }
        for (int bad : BAD_FEELINGS) {
            none("letter of FEELING " + bad, y -> y.letter(1, bad, 0));
        }
        due("letter of the last OFFICER", busy().letter(0, 2, 0), 12);
        due("letter of the last FEELING", busy().letter(1, 1, 0), 23);
    }

    private static void officerAndCarbon() {
        sentence("Promise 8", "Of an OFFICER: 0 shape, 1 press, 2 how many CARBONS lead to him, 3 how many lead from him.");
        CarbonMinistry x = of(lettered(8) + times("carbon g to h sheets 1;", 12));
        for (int o = 0; o < 8; o++) {
            due("shape of " + o, x.officer(o, 0), o);
            due("press of " + o, x.officer(o, 1), 9 - o);
            due("to " + o, x.officer(o, 2), o == 7 ? 12 : 0);
            due("from " + o, x.officer(o, 3), o == 6 ? 12 : 0);
        }
        x.turn(11, 1);
        x.pull(0, 0);
        due("to h", x.officer(7, 2), 10);
        due("from h", x.officer(7, 3), 1);
        due("to g", x.officer(6, 2), 1);
        due("from g", x.officer(6, 3), 10);
        x.turn(0, 1);
        due("one that is not IN leads nowhere", x.officer(7, 3), 1);

        sentence("Promise 8", "NONE when there is none such, or for others.");
        for (int bad : BAD_OFFICERS) {
            none("officer(" + bad + ", 0)", y -> y.officer(bad, 0));
            none("officer(" + bad + ", 3)", y -> y.officer(bad, 3));
        }
        for (int bad : new int[] {-1, 4, HIGH, LOW}) {
            none("officer(0, " + bad + ")", y -> y.officer(0, bad));
            none("officer(2, " + bad + ")", y -> y.officer(2, bad));
        }

        sentence("Promise 9", "Of a CARBON: 0 its first OFFICER, 1 the second one, 2 sheets, 3 whether IN, 4 whether TURNED.");
        CarbonMinistry z = of(OFFICE);
        int[][] carbons = {{0, 1, 2, 1, 0}, {1, 2, 3, 1, 0}, {0, 2, 5, 1, 0}};
        dueCarbons(z, carbons);
        z.turn(2, 1);
        carbons[2][4] = 1;
        dueCarbons(z, carbons);
        z.pull(2, 0);
        carbons[2][3] = 0;
        dueCarbons(z, carbons);
        z.pull(0, 0);
        z.turn(2, 0);
        carbons[0][3] = 0;
        carbons[2][4] = 0;
        dueCarbons(z, carbons);

        sentence("Promise 9", "NONE when there is none such, or for others.");
        for (int bad : BAD_CARBONS) {
            none("carbon(" + bad + ", 0)", y -> y.carbon(bad, 0));
            none("carbon(" + bad + ", 3)", y -> y.carbon(bad, 3));
        }
        for (int bad : new int[] {-1, 5, HIGH, LOW}) {
            none("carbon(0, " + bad + ")", y -> y.carbon(0, bad));
            none("carbon(2, " + bad + ")", y -> y.carbon(2, bad));
        }
    }

    private static void dueCarbons(CarbonMinistry x, int[][] want) {
        for (int c = 0; c < want.length; c++) {
            for (int what = 0; what < 5; what++) {
                due("carbon(" + c + ", " + what + ")", x.carbon(c, what), want[c][what]);
            }
        }
    }

    private static void feelsAndPasses() {
        sentence("Promise 10", "How strongly an OFFICER feels a FEELING");
        CarbonMinistry x = of(lettered(8) + "feeling w;feeling x;feeling y;feeling z;felt w of a is 1;felt z of h is 99;");
        due("feels(0, 0)", x.feels(0, 0), 1);
        due("feels(7, 3)", x.feels(7, 3), 99);
        due("feels(7, 0)", x.feels(7, 0), 0);
        x.put(7, 3, 0);
        due("feels(7, 3)", x.feels(7, 3), 0);

        sentence("Promise 10", "; NONE when there are none such.");
        for (int bad : BAD_OFFICERS) {
            none("feels(" + bad + ", 0)", y -> y.feels(bad, 0));
        }
        for (int bad : BAD_FEELINGS) {
            none("feels(0, " + bad + ")", y -> y.feels(0, bad));
        }
        due("feels(8, 0) of 8", x.feels(8, 0), NONE);
        due("feels(0, 4) of 4", x.feels(0, 4), NONE);

        sentence("Promise 11", "How much of a FEELING comes through a CARBON in the next DAY, as it leads now: the SUM of passes, "
            + "cut as told");
        int[][] cuts = {{-1, 0}, {0, 0}, {1, 1}, {99, 99}, {100, 99}};
        for (int[] row : cuts) {
            String sum = row[0] < 0 ? "0-" + -row[0] : "" + row[0];
            due("passes " + sum, of(AB + A_TO_B + "felt j of a is 1;passes " + sum + ";").passes(0, 0), row[1]);
        }
        CarbonMinistry z = of("officer a shape 2 press 3;officer b shape 4 press 5;feeling j;carbon a to b sheets 9;"
            + "felt j of a is 7;felt j of b is 8;fades feel;passes shape+10*min(1,max(0,day-998))+strength;");
        due("as it leads now", z.passes(0, 0), 11);
        due("that is what comes", z.later(1, 0, 1), 8 + 11);
        z.turn(0, 1);
        due("TURNED", z.passes(0, 0), 10);
        goTo(z, 998);
        due("in the DAY that passes next, 998", z.passes(0, 0), 10);

        eachCarbonByItself();

        sentence("Promise 11", "; 0 when it is not IN, or it is felt by 0");
        CarbonMinistry w = of(AB + A_TO_B + "felt j of a is 1;passes 7;");
        due("IN, felt by 1", w.passes(0, 0), 7);
        w.pull(0, 0);
        due("not IN", w.passes(0, 0), 0);
        w.pull(0, 1);
        w.turn(0, 1);
        due("felt by 0 there", w.passes(0, 0), 0);
        w.turn(0, 0);
        w.put(0, 0, 0);
        w.put(1, 0, 99);
        due("felt by 0", w.passes(0, 0), 0);
        due("and nothing comes", w.later(1, 0, 1), 0);

        sentence("Promise 11", "; NONE when there are none such.");
        for (int bad : BAD_CARBONS) {
            none("passes(" + bad + ", 0)", y -> y.passes(bad, 0));
        }
        for (int bad : BAD_FEELINGS) {
            none("passes(0, " + bad + ")", y -> y.passes(0, bad));
            none("passes of one not IN, " + bad, y -> y.passes(2, bad));
        }
    }

    /** Twelve unlike CARBONS, TURNED or not, IN or not: each passes by its own giver, taker and sheets. */
    private static void eachCarbonByItself() {
        StringBuilder text = new StringBuilder(lettered(8) + "feeling j;feeling k;passes strength+10*shape-sheets;");
        for (int o = 0; o < 8; o++) {
            text.append("felt k of ").append((char) ('a' + o)).append(" is ").append(o + 9).append(';');
        }
        for (int c = 0; c < 12; c++) {
            text.append("carbon ").append((char) ('a' + c % 8)).append(" to ").append((char) ('a' + (3 * c + 1) % 8))
                .append(" sheets ").append(1 + c % 9).append(';');
        }
        String told = text.toString().replace("carbon d to c", "carbon d to e");
        for (int turned : new int[] {0, 1, 0x800, 0x555, 0xaaa, 0xfff}) {
            for (int in : new int[] {0xfff, 0x7fe, 0x666}) {
                CarbonMinistry x = of(told);
                int[] sums = new int[8];
                for (int c = 0; c < 12; c++) {
                    x.turn(c, turned >> c & 1);
                    x.pull(c, in >> c & 1);
                    int from = x.carbon(c, turned >> c & 1);
                    int to = x.carbon(c, 1 - (turned >> c & 1));
                    int want = (in >> c & 1) == 0 ? 0 : Math.max(0, Math.min(99, from + 9 + 10 * to - 1 - c % 9));
                    sums[to] += want;
                    due("passes(" + c + ", 1), TURNED " + turned + ", IN " + in, x.passes(c, 1), want);
                    due("passes(" + c + ", 0)", x.passes(c, 0), 0);
                }
                for (int o = 0; o < 8; o++) {
                    due("later(" + o + ", 1, 1), TURNED " + turned + ", IN " + in, x.later(o, 1, 1), Math.min(99, sums[o]));
                }
            }
        }
    }

    private static void keptOnes() {
        sentence("Promise 12", "Of what is told as KEPT, the k-th from the oldest on: 0 DAY, 1 OFFICER, 2 FEELING, 3 strength.");
        CarbonMinistry x = of(AB + "feeling k;felt k of b is 30;felt j of a is 20;fades feel-1;acts all;");
        x.days(2);
        int[][] kept = {{0, 0, 0, 19}, {0, 1, 1, 29}, {1, 0, 0, 18}, {1, 1, 1, 28}};
        for (int k = 0; k < 4; k++) {
            for (int what = 0; what < 4; what++) {
                due("kept(" + k + ", " + what + ")", x.kept(k, what), kept[k][what]);
            }
        }

        sentence("Promise 12", "NONE when there is none such, or for others.");
        for (int bad : new int[] {-1, 4, 39, 40, HIGH, LOW}) {
            due("kept(" + bad + ", 0) of 4", x.kept(bad, 0), NONE);
            none("kept(" + bad + ", 0)", y -> y.kept(bad, 0));
        }
        for (int bad : new int[] {-1, 4, HIGH, LOW}) {
            due("kept(0, " + bad + ")", x.kept(0, bad), NONE);
            due("kept(3, " + bad + ")", x.kept(3, bad), NONE);
            none("kept(0, " + bad + ")", y -> y.kept(0, bad));
        }
        x.days(17);
        due("has(7)", x.has(7), 38);
        due("kept(37, 0)", x.kept(37, 0), 18);
        due("kept(38, 0)", x.kept(38, 0), NONE);
        x.days(9);
        due("has(7)", x.has(7), 40);
        due("kept(39, 0)", x.kept(39, 0), 27);
        for (int bad : new int[] {-1, -2, -40, -41, 40, 41, 80, HIGH, LOW}) {
            due("kept(" + bad + ", 0) of more than 40", x.kept(bad, 0), NONE);
        }
        due("of a new object", new CarbonMinistry().kept(0, 0), NONE);
    }

    // ---- ahead

    private static void later() {
        sentence("Promise 13", "How strongly an OFFICER feels a FEELING behind n DAYS AHEAD (0 .. 60)");
        CarbonMinistry x = of(AB + "felt j of a is 99;felt j of b is 60;fades feel-1;");
        for (int n : new int[] {0, 1, 2, 59, 60}) {
            due("later(0, 0, " + n + ")", x.later(0, 0, n), 99 - n);
            due("later(1, 0, " + n + ")", x.later(1, 0, n), 60 - n);
        }
        due("has(3)", x.has(3), 0);
        due("has(6)", x.has(6), 159);

        sentence("Promise 13", "; NONE when there are none such, or n can't be.");
        for (int bad : BAD_OFFICERS) {
            none("later(" + bad + ", 0, 1)", y -> y.later(bad, 0, 1));
        }
        for (int bad : BAD_FEELINGS) {
            none("later(0, " + bad + ", 1)", y -> y.later(0, bad, 1));
        }
        for (int bad : new int[] {-1, 61, 100, HIGH, LOW}) {
            none("later(0, 0, " + bad + ")", y -> y.later(0, 0, bad));
        }
        int[][] days = {{939, 60}, {940, 59}, {998, 1}, {999, 0}};
        for (int[] row : days) {
            goTo(x, row[0]);
            due("later to DAY 999", x.later(0, 0, row[1]), 99 - row[1]);
            due("later to DAY 1000", x.later(0, 0, row[1] + 1), NONE);
        }
    }

    private static void settles() {
        sentence("Promise 14", "SETTLED: behind how many DAYS AHEAD (0 .. 59, that later one not beyond DAY 999)");
        String one = "officer a shape 0 press 0;feeling j;fades feel-1;felt j of a is ";
        due("0", of("officer a shape 0 press 0;feeling j;fades feel-1;").settles(), 0);
        due("1", of(one + "1;").settles(), 1);
        due("58", of(one + "58;").settles(), 58);
        due("59", of(one + "59;").settles(), 59);
        int[][] days = {{998, 0, 0}, {997, 1, 1}, {990, 8, 8}, {940, 58, 58}, {939, 59, 59}};
        for (int[] row : days) {
            CarbonMinistry x = of(one + "99;");
            goTo(x, row[0]);
            x.put(0, 0, row[1]);
            due("from DAY " + row[0] + " by " + row[1], x.settles(), row[2]);
            x.put(0, 0, row[1] + 1);
            due("from DAY " + row[0] + " by one more", x.settles(), NONE);
        }

        sentence("Promise 14", "; NONE when it is not.");
        due("60", of(one + "60;").settles(), NONE);
        due("99", of(one + "99;").settles(), NONE);
        CarbonMinistry y = of(one + "5;");
        goTo(y, 999);
        due("at DAY 999", y.settles(), NONE);
        y.put(0, 0, 0);
        due("at DAY 999, nothing felt", y.settles(), NONE);
        CarbonMinistry nobody = new CarbonMinistry();
        due("nobody", nobody.settles(), 0);
        goTo(nobody, 998);
        due("nobody at DAY 998", nobody.settles(), 0);
        goTo(nobody, 999);
        due("nobody at DAY 999", nobody.settles(), NONE);
        refused(NONE, "settles at DAY 999", () -> at(999), CarbonMinistry::settles, NONE);
    }

    /** Busy, but for a DAY by an image. */
    private static CarbonMinistry at(int day) {
        CarbonMinistry x = busy();
        goTo(x, day);
        x.put(0, 1, 3);
        put(x, "total day");
        return x;
    }

    private static void strongestAndActed() {
        sentence("Promise 15", "The OFFICER who feels a FEELING most behind n DAYS AHEAD (0 .. 60), of like ones the first");
        CarbonMinistry x = of(lettered(8) + "feeling j;feeling k;felt j of h is 62;felt j of g is 61;felt k of b is 7;fades feel-1;");
        due("strongest(0, 0)", x.strongest(0, 0), 7);
        due("strongest(0, 60)", x.strongest(0, 60), 7);
        due("strongest(1, 0)", x.strongest(1, 0), 1);
        due("strongest(1, 6), by 1", x.strongest(1, 6), 1);
        x.put(6, 0, 62);
        due("of like ones", x.strongest(0, 0), 6);
        due("of like ones", x.strongest(0, 60), 6);
        x.put(0, 0, 62);
        due("of like ones", x.strongest(0, 30), 0);
        x.put(1, 0, 63);
        due("by one more", x.strongest(0, 60), 1);
        CarbonMinistry y = of(AB + A_TO_B + "felt j of a is 60;passes strength;");
        due("now", y.strongest(0, 0), 0);
        due("a day later", y.strongest(0, 1), 1);

        sentence("Promise 15", "; NONE when nobody feels it (0), there is none such, or n can't be.");
        due("strongest(1, 7), by 0", x.strongest(1, 7), NONE);
        due("two days later", y.strongest(0, 2), NONE);
        due("nobody", of(AB).strongest(0, 0), NONE);
        due("without officers", of("feeling j;").strongest(0, 0), NONE);
        for (int bad : BAD_FEELINGS) {
            none("strongest(" + bad + ", 0)", z -> z.strongest(bad, 0));
        }
        for (int bad : new int[] {-1, 61, HIGH, LOW}) {
            none("strongest(1, " + bad + ")", z -> z.strongest(1, bad));
        }
        for (int bad : new int[] {-1, 61, HIGH, LOW}) {
            due("behind " + bad, x.strongest(0, bad), NONE);
        }
        goTo(x, 940);
        due("to DAY 999", x.strongest(0, 59), 1);
        due("to DAY 1000", x.strongest(0, 60), NONE);

        sentence("Promise 16", "How many are ACTED on in n DAYS AHEAD (0 .. 60)");
        CarbonMinistry z = of(AB + "feeling k;felt j of a is 99;felt k of b is 30;fades feel-1;acts all;");
        due("acted(0)", z.acted(0), 0);
        due("acted(1)", z.acted(1), 2);
        due("acted(29)", z.acted(29), 58);
        due("acted(30)", z.acted(30), 59);
        due("acted(59)", z.acted(59), 88);
        due("acted(60)", z.acted(60), 89);
        due("nothing is KEPT", z.has(7), 0);
        due("days", z.days(60), 89);

        sentence("Promise 16", "; NONE when n can't be.");
        for (int bad : new int[] {-1, 61, HIGH, LOW}) {
            none("acted(" + bad + ")", w -> w.acted(bad));
        }
        goTo(z, 940);
        due("to DAY 999", z.acted(59) >= 0, true);
        due("to DAY 1000", z.acted(60), NONE);
        goTo(z, 999);
        due("acted(0)", z.acted(0), 0);
        due("acted(1)", z.acted(1), NONE);
    }

    // ---- carbons

    private static void turning() {
        sentence("Promise 17", "TURNS for an OFFICER to feel a FEELING by a strength (1 .. 99) behind n DAYS (0 .. 20), as bits");
        CarbonMinistry x = of(AB + times(A_TO_B, 12) + "felt j of b is 99;fades feel;passes 1;");
        due("strength 1 now", x.turning(1, 0, 1, 0), 0);
        due("strength 99 now", x.turning(1, 0, 99, 0), 0);
        due("strength 1 behind a day", x.turning(0, 0, 1, 1), 1);
        due("strength 12 behind a day", x.turning(0, 0, 12, 1), 4095);
        due("strength 20 behind 20 days", x.turning(0, 0, 20, 20), 1);
        due("strength 21 behind 20 days, and a's own go on", x.turning(0, 0, 21, 20), 3);
        due("has(5)", x.has(5), 0);

        sentence("Promise 17", "; NONE without, when there are none such, or n can't be.");
        due("strength 13 behind a day", x.turning(0, 0, 13, 1), NONE);
        due("strength 1 now", x.turning(0, 0, 1, 0), NONE);
        for (int bad : new int[] {0, -1, 100, HIGH, LOW}) {
            none("turning by strength " + bad, y -> y.turning(0, 1, bad, 1));
        }
        for (int bad : new int[] {-1, 21, 60, HIGH, LOW}) {
            none("turning behind " + bad, y -> y.turning(0, 1, 1, bad));
        }
        for (int bad : BAD_OFFICERS) {
            none("turning for OFFICER " + bad, y -> y.turning(bad, 1, 1, 0));
        }
        for (int bad : BAD_FEELINGS) {
            none("turning for FEELING " + bad, y -> y.turning(0, bad, 1, 0));
        }
        due("busy's own", busy().turning(0, 1, 1, 0), 0);
        due("of a new object", new CarbonMinistry().turning(0, 0, 1, 0), NONE);
        int[][] days = {{979, 20}, {980, 19}, {998, 1}, {999, 0}};
        for (int[] row : days) {
            goTo(x, row[0]);
            due("to DAY 999", x.turning(1, 0, 99, row[1]), 0);
            due("to DAY 1000", x.turning(1, 0, 99, row[1] + 1), NONE);
        }
        goTo(x, 0);
        due("strength 99 behind 20 days", x.turning(1, 0, 99, 20), 0);
        for (int bad : new int[] {-1, 21, 22, 60, HIGH, LOW}) {
            due("strength 99 behind " + bad, x.turning(1, 0, 99, bad), NONE);
        }
        for (int bad : new int[] {0, -1, 100, LOW}) {
            due("strength " + bad + " now", x.turning(1, 0, bad, 0), NONE);
        }
        due("OFFICER 2 of 2", x.turning(2, 0, 1, 0), NONE);
        due("FEELING 1 of 1", x.turning(1, 1, 1, 0), NONE);
        CarbonMinistry y = of(AB + "felt j of a is 1;");
        due("by 1 alone", y.turning(0, 0, 1, 0), 0);
        due("by 2", y.turning(0, 0, 2, 0), NONE);
        due("felt by nobody", of(AB + A_TO_B).turning(0, 0, 1, 1), NONE);
        // Of so many out of twelve the ones that come last are the only ones.
        for (int many = 0; many <= 12; many++) {
            CarbonMinistry last = of(AB + times("carbon b to a sheets 1;", 12 - many) + times("carbon a to b sheets 1;", many)
                + "felt j of b is 9;");
            due("the last " + many + " of twelve", last.turning(0, 0, 96, 1), 4096 - (4096 >> many));
            due("in vain", last.turning(0, 0, 97, 1), NONE);
        }
        // Each OFFICER by his own CARBON.
        StringBuilder star = new StringBuilder(lettered(8) + "feeling j;felt j of h is 50;");
        for (int o = 0; o < 7; o++) {
            star.append("carbon ").append((char) ('a' + o)).append(" to h sheets 1;");
        }
        CarbonMinistry z = of(star.toString());
        for (int o = 0; o < 7; o++) {
            due("OFFICER " + o + " by his CARBON", z.turning(o, 0, 49, 1), 1 << o);
            due("OFFICER " + o + " by one more", z.turning(o, 0, 50, 1), NONE);
            due("OFFICER " + o + " now", z.turning(o, 0, 1, 0), NONE);
        }
        due("h now", z.turning(7, 0, 50, 0), 0);
        due("h a day later", z.turning(7, 0, 1, 1), NONE);
    }

    private static void stepsAndCutting() {
        sentence("Promise 18", "STEPS from one OFFICER to another (himself: 0)");
        StringBuilder row = new StringBuilder(lettered(8));
        for (int k = 0; k < 7; k++) {
            row.append("carbon ").append((char) ('a' + k)).append(" to ").append((char) ('b' + k)).append(" sheets 1;");
        }
        CarbonMinistry x = of(row.toString());
        for (int from = 0; from < 8; from++) {
            for (int to = 0; to < 8; to++) {
                due("steps(" + from + ", " + to + ")", x.steps(from, to), to >= from ? to - from : NONE);
            }
        }

        sentence("Promise 18", "; NONE without, or when there are none such.");
        due("without carbons", of(AB).steps(0, 1), NONE);
        due("himself without carbons", of(AB).steps(1, 1), 0);
        x.pull(3, 0);
        due("not IN", x.steps(3, 4), NONE);
        x.turn(3, 1);
        due("not IN, TURNED", x.steps(4, 3), NONE);
        for (int bad : BAD_OFFICERS) {
            none("steps(" + bad + ", 0)", y -> y.steps(bad, 0));
            none("steps(0, " + bad + ")", y -> y.steps(0, bad));
            none("steps(" + bad + ", " + bad + ")", y -> y.steps(bad, bad));
        }

        sentence("Promise 19", "A CUT from one OFFICER to another: how many CARBONS");
        CarbonMinistry z = of(lettered(8) + times("carbon g to h sheets 1;", 12));
        due("cutting(6, 7)", z.cutting(6, 7), 12);
        due("cutting(7, 6)", z.cutting(7, 6), 0);
        due("cutting(0, 7)", z.cutting(0, 7), 0);
        z.pull(0, 0);
        due("cutting(6, 7)", z.cutting(6, 7), 11);
        due("nothing is pulled", z.has(4), 11);
        longRows();

        sentence("Promise 19", "; NONE when they are one, or there are none such.");
        for (int o = 0; o < 3; o++) {
            int one = o;
            none("cutting(" + o + ", " + o + ")", y -> y.cutting(one, one));
        }
        for (int bad : BAD_OFFICERS) {
            none("cutting(" + bad + ", 0)", y -> y.cutting(bad, 0));
            none("cutting(0, " + bad + ")", y -> y.cutting(0, bad));
            none("cutting(" + bad + ", " + bad + ")", y -> y.cutting(bad, bad));
        }
    }

    /** Rows of seven CARBONS, told from the last to the first or the other way, some of them twice. */
    private static void longRows() {
        for (int way = 0; way < 2; way++) {
            StringBuilder row = new StringBuilder(lettered(8));
            for (int k = 0; k < 7; k++) {
                int from = way == 0 ? k : 6 - k;
                row.append("carbon ").append((char) ('a' + from)).append(" to ").append((char) ('b' + from)).append(" sheets 1;");
            }
            CarbonMinistry x = of(row.toString());
            due("a row of seven", x.cutting(0, 7), 1);
            due("none back", x.cutting(7, 0), 0);
            CarbonMinistry y = of(row + "carbon a to b sheets 1;carbon c to d sheets 1;carbon e to f sheets 1;carbon g to h sheets 1;");
            due("a row of seven, some twice", y.cutting(0, 7), 1);
            due("twice", y.cutting(0, 1), 2);
            due("twice", y.cutting(6, 7), 2);
            y.pull(7, 0);
            due("once", y.cutting(0, 1), 1);
            CarbonMinistry z = of(row + "carbon a to e sheets 1;carbon b to h sheets 1;carbon d to h sheets 1;carbon a to g sheets 1;");
            due("three from a to h, by b, by e, by g, which h takes of g, b and d", z.cutting(0, 7), 2);
        }
    }

    // ---- who felt it first

    private static void discoverRows() {
        sentence("Promise 20", "The tape (it goes) tells what is FOUND, 1 to 16 rows of three bytes: how many rows");
        CarbonMinistry x = of(OFFICE);
        for (int rows : new int[] {1, 2, 15, 16}) {
            due("discover of " + rows, discover(x, new int[3 * rows]), rows);
            due("has(8)", x.has(8), rows);
            due("the tape goes", x.end(1), false);
        }
        due("discover again", discover(x, 30, 2, 99), 1);
        due("has(8)", x.has(8), 1);
        due("the rows of ahead go", discover(x, 0, 2, 99), 1);
        due("sources", x.sources(0, NONE), 1);
        due("the source", x.sources(0, 0), 299);
        due("has(9)", x.has(9), 0);
        // The last of 16 rows counts as the first one.
        int[] last = new int[48];
        for (int k = 0; k < 16; k++) {
            last[3 * k + 1] = 1;
        }
        last[46] = 2;
        last[47] = 98;
        due("discover of 16", discover(x, last), 16);
        due("sources", x.sources(0, NONE), 1);
        due("the source", x.sources(0, 0), 298);

        changesOnly("discover", y -> discover(y, 0, 0, 0, 0, 0, 0, 0, 0, 0), "has(8)");

        sentence("Promise 20", "; NONE, refused (1), all staying, when it is none such.");
        for (int octets : new int[] {0, 1, 2, 4, 5, 46, 47, 49, 50, 51}) {
            refusedTape(1, "discover of " + octets + " bytes", CarbonMinistry::discover, NONE, new int[octets]);
        }
        refusedTape(1, "discover of 31 DAYS", CarbonMinistry::discover, NONE, 0, 0, 0, 31, 0, 0);
        refusedTape(1, "discover of OFFICER 3", CarbonMinistry::discover, NONE, 0, 0, 0, 0, 3, 0);
        refusedTape(1, "discover of strength 100", CarbonMinistry::discover, NONE, 0, 0, 0, 0, 0, 100);
        refusedTape(1, "discover of strength 100, ahead", CarbonMinistry::discover, NONE, 0, 0, 100, 0, 0, 0);
        refusedTape(1, "discover of 255 DAYS", CarbonMinistry::discover, NONE, 255, 0, 0);
        refusedTape(1, "discover of OFFICER 4 of 3", CarbonMinistry::discover, NONE, 0, 4, 0);
        refusedTape(1, "discover of OFFICER 8", CarbonMinistry::discover, NONE, 0, 8, 0);
        refusedTape(1, "discover of OFFICER 255", CarbonMinistry::discover, NONE, 0, 255, 0);
        refusedTape(1, "discover of strength 255", CarbonMinistry::discover, NONE, 0, 0, 255);
        due("without officers", discover(of("feeling j;"), 0, 0, 0), NONE);
        CarbonMinistry y = of(lettered(8) + "feeling j;");
        due("of OFFICER 7", discover(y, 0, 7, 0), 1);
        due("of OFFICER 8", discover(y, 0, 8, 0), NONE);
        // DAYS beyond 999 can be told; they are by none.
        goTo(y, 999);
        due("30 DAYS from DAY 999 on", discover(y, 30, 0, 0), 1);
    }

    private static void sources() {
        sentence("Promise 21", "SOURCES of a FEELING by what is FOUND (all, if nothing is; DAYS beyond 999 are by none): "
            + "how many (k NONE), the k-th, OFFICER by OFFICER, by rising strength: 100 times the OFFICER and the strength.");
        CarbonMinistry x = of(lettered(8) + "feeling j;fades feel;");
        due("all", x.sources(0, NONE), 792);
        int[][] all = {{0, 1}, {1, 2}, {98, 99}, {99, 101}, {197, 199}, {198, 201}, {692, 699}, {693, 701}, {791, 799}};
        for (int[] row : all) {
            due("sources(0, " + row[0] + ")", x.sources(0, row[0]), row[1]);
        }
        due("of one officer", of("officer a shape 1 press 1;feeling j;").sources(0, NONE), 99);
        due("without officers", of("feeling j;").sources(0, NONE), 0);
        // Up to DAY 999, and not beyond it.
        int[][] days = {{969, 30, 1}, {970, 29, 1}, {970, 30, 0}, {998, 1, 1}, {998, 2, 0}, {999, 0, 1}, {999, 1, 0}};
        for (int[] row : days) {
            goTo(x, row[0]);
            discover(x, row[1], 4, 42);
            due("sources at " + row[0] + " of " + row[1], x.sources(0, NONE), row[2]);
            due("the source", x.sources(0, 0), row[2] == 1 ? 442 : NONE);
            discover(x, 0, 4, 42, row[1], 4, 42, 0, 5, 0);
            due("sources of more rows", x.sources(0, NONE), row[2]);
        }
        soNow();
        // What is FOUND stays, by what is so now.
        goTo(x, 0);
        discover(x, 1, 4, 42);
        x.days(5);
        due("the source later", x.sources(0, 0), 442);
        read(x, lettered(8) + "feeling j;fades feel;");
        due("all again", x.sources(0, NONE), 792);

        sentence("Promise 21", "NONE when there is none such.");
        for (int bad : new int[] {-2, 11, 792, HIGH, LOW}) {
            none("sources(0, " + bad + ")", y -> y.sources(0, bad));
        }
        due("behind the last", x.sources(0, 792), NONE);
        discover(x, 0, 4, 42);
        due("the only one", x.sources(0, 0), 442);
        due("behind the only one", x.sources(0, 1), NONE);
        discover(x, 0, 4, 42, 0, 4, 43);
        due("how many of none", x.sources(0, NONE), 0);
        due("the first of none", x.sources(0, 0), NONE);
        for (int bad : BAD_FEELINGS) {
            none("sources(" + bad + ", -1)", y -> y.sources(bad, NONE));
            none("sources(" + bad + ", 0)", y -> y.sources(bad, 0));
        }
    }

    /** SOURCES and what is TELLING are by what is so now, behind each call that makes it another. */
    private static void soNow() {
        CarbonMinistry x = of(AB + A_TO_B + "felt j of a is 9;fades feel;passes max(0,strength-1-day);slip 100;");
        discover(x, 1, 1, 40, 0, 1, 0);
        dueSource(x, "at first", 41);
        x.turn(0, 1);
        dueSource(x, "TURNED", NONE);
        x.undo();
        dueSource(x, "undone", 41);
        x.pull(0, 0);
        dueSource(x, "pulled", NONE);
        x.pull(0, 1);
        dueSource(x, "put IN", 41);
        x.days(2);
        dueSource(x, "behind two DAYS", 43);
        x.undo();
        dueSource(x, "undone", 41);
        x.chance(1);
        dueSource(x, "TURNED by the seed", NONE);
        x.chance(1);
        dueSource(x, "turned back by the seed", 43);
        x.undo();
        x.undo();
        dueSource(x, "undone", 41);
        x.put(1, 0, 50);
        dueSource(x, "whatever is felt now", 41);
        goTo(x, 7);
        dueSource(x, "by an image, on DAY 7", 48);
        on(x, sealed(0, 7, 0, 0, 9, 0));
        dueSource(x, "by an image, not IN", NONE);
        on(x, sealed(0, 8, 1, 0, 9, 0));
        dueSource(x, "by an image, on DAY 8", 49);
        discover(x, 1, 1, 50, 0, 1, 0);
        dueSource(x, "by other rows", 59);
        read(x, AB + A_TO_B);
        due("all behind a MINISTRY", x.sources(0, NONE), 198);
        due("one of two officers tells nothing", x.tells(0, 2) < 198, true);
    }

    private static void dueSource(CarbonMinistry x, String when, int source) {
        due("how many, " + when, x.sources(0, NONE), source == NONE ? 0 : 1);
        due("the source, " + when, x.sources(0, 0), source);
        due("tells, " + when, x.tells(0, 2), source == NONE ? NONE : 1);
    }

    private static void tells() {
        sentence("Promise 22", "TELLING for a FEELING: the number of DAYS AHEAD (what 0), the OFFICER (1), "
            + "how many SOURCES are left at the most (2).");
        CarbonMinistry x = of(OFFICE);
        discover(x, 1, 2, 12, 1, 1, 32);
        for (int f = 0; f < 2; f++) {
            due("DAYS", x.tells(f, 0), 1);
            due("OFFICER", x.tells(f, 1), 0);
            due("left", x.tells(f, 2), 2);
        }
        CarbonMinistry one = of(lettered(8) + "feeling j;fades feel;");
        discover(one, 0, 7, 99);
        due("one alone: DAYS", one.tells(0, 0), 1);
        due("one alone: OFFICER", one.tells(0, 1), 0);
        due("one alone: left", one.tells(0, 2), 1);

        // From now on, whenever the rows are of: behind a DAY a by 1 and b by any of 1 .. 30 are both by 0 in a.
        CarbonMinistry less = of(AB + "fades feel-1;");
        discover(less, 30, 1, 0);
        due("sources of less and less", less.sources(0, NONE), 99 + 30);
        due("DAYS", less.tells(0, 0), 1);
        due("OFFICER", less.tells(0, 1), 0);
        due("left", less.tells(0, 2), 31);
        // Up to DAY 999 and not beyond: what is done on DAY 998 tells a from b.
        int[][] last = {{968, 1, 0, 99}, {969, 30, 2, 2}, {970, 29, 2, 2}, {997, 2, 2, 2}, {998, 1, 2, 2}};
        for (int[] row : last) {
            CarbonMinistry y = of(lettered(3) + "feeling j;carbon a to c sheets 1;carbon b to c sheets 1;fades feel;"
                + "passes (strength-sheets)*max(0,min(1,day-997));");
            goTo(y, row[0]);
            discover(y, 0, 2, 0);
            for (int what = 0; what < 3; what++) {
                due("tells(0, " + what + ") at DAY " + row[0], y.tells(0, what), row[what + 1]);
            }
        }

        CarbonMinistry never = of(lettered(3) + "feeling j;carbon a to c sheets 1;carbon b to c sheets 1;fades feel;"
            + "passes (strength-sheets)*max(0,min(1,day-998));");
        goTo(never, 980);
        discover(never, 0, 2, 0);
        due("DAY 999 does not pass: DAYS", never.tells(0, 0), 1);
        due("DAY 999 does not pass: left", never.tells(0, 2), 99);

        sentence("Promise 22", "NONE without any, when no DAY comes, there is none such, or for others.");
        discover(one, 0, 7, 99, 0, 7, 98);
        for (int what = 0; what < 3; what++) {
            due("without any", one.tells(0, what), NONE);
        }
        discover(one, 0, 7, 99);
        goTo(one, 998);
        due("the last DAY", one.tells(0, 0), 1);
        goTo(one, 999);
        for (int what = 0; what < 3; what++) {
            due("no DAY comes", one.tells(0, what), NONE);
        }
        due("a SOURCE there is", one.sources(0, NONE), 1);
        for (int bad : BAD_FEELINGS) {
            none("tells(" + bad + ", 0)", y -> y.tells(bad, 0));
            none("tells(" + bad + ", 2)", y -> y.tells(bad, 2));
        }
        for (int bad : new int[] {-1, 3, HIGH, LOW}) {
            none("tells(0, " + bad + ")", y -> y.tells(0, bad));
        }
        due("without officers", of("feeling j;").tells(0, 0), NONE);
    }

    // ---- acts

    private static void put() {
        sentence("Promise 23", "An OFFICER feels a FEELING by a strength (0 .. 99): true");
        CarbonMinistry x = of(lettered(8) + "feeling w;feeling x;feeling y;feeling z;felt z of h is 50;");
        int all = 50;
        int[] strengths = {0, 99, 1, 98};
        int was = 50;
        for (int strength : strengths) {
            due("put(7, 3, " + strength + ")", x.put(7, 3, strength), true);
            all += strength - was;
            was = strength;
            due("feels", x.feels(7, 3), strength);
            due("has(6)", x.has(6), all);
        }
        due("put(0, 0, 99)", x.put(0, 0, 99), true);
        due("has(6)", x.has(6), 98 + 99);
        due("has(9)", x.has(9), 5);

        changesOnly("put", y -> bit(y.put(2, 1, 99)), "feels(2, 1)", "has(6)", "has(9)");
        changesOnly("put of 0", y -> bit(y.put(0, 1, 0)), "feels(0, 1)", "has(6)", "has(9)");

        sentence("Promise 23", "; false, refused (2), when it is that, there are none such, or for others.");
        refused(2, "put of what is so", y -> bit(y.put(0, 1, 44)), 0);
        refused(2, "put of 0, as it is", y -> bit(y.put(1, 1, y.feels(1, 1))), 0);
        for (int bad : new int[] {-1, 100, 127, 128, 256 + 44, HIGH, LOW}) {
            refused(2, "put(0, 1, " + bad + ")", y -> bit(y.put(0, 1, bad)), 0);
        }
        for (int bad : BAD_OFFICERS) {
            refused(2, "put(" + bad + ", 1, 5)", y -> bit(y.put(bad, 1, 5)), 0);
        }
        for (int bad : BAD_FEELINGS) {
            refused(2, "put(0, " + bad + ", 5)", y -> bit(y.put(0, bad, 5)), 0);
        }
        due("put(8, 0, 5) of 8", x.put(8, 0, 5), false);
        due("put(0, 4, 5) of 4", x.put(0, 4, 5), false);
        due("of a new object", new CarbonMinistry().put(0, 0, 0), false);
    }

    private static void turnAndPull() {
        sentence("Promise 24", "A CARBON is TURNED (on 1), or turned back (0): true");
        CarbonMinistry x = of(AB + times(A_TO_B, 12));
        int[] each = {0, 1, 11};
        for (int c : each) {
            due("turn(" + c + ", 1)", x.turn(c, 1), true);
            due("has(5)", x.has(5), 1);
            due("carbon", x.carbon(c, 4), 1);
            due("turn(" + c + ", 0)", x.turn(c, 0), true);
            due("has(5)", x.has(5), 0);
            due("carbon", x.carbon(c, 4), 0);
        }
        due("has(9)", x.has(9), 6);
        x.pull(11, 0);
        due("one that is not IN", x.turn(11, 1), true);
        due("it stays so", x.carbon(11, 3), 0);

        changesOnly("turn", y -> bit(y.turn(0, 1)), "carbon(0, 4)", "has(5)", "has(9)", "officer(0, ", "officer(1, ");
        changesOnly("turn back", y -> bit(y.turn(1, 0)), "carbon(1, 4)", "has(5)", "has(9)", "officer(1, ", "officer(2, ");
        changesOnly("turn of one not IN", y -> bit(y.turn(2, 1)), "carbon(2, 4)", "has(5)", "has(9)");

        sentence("Promise 24", "; false, refused (2), when it is so already, there is none such, or for others.");
        refused(2, "turn(1, 1) of a TURNED one", y -> bit(y.turn(1, 1)), 0);
        refused(2, "turn(0, 0) of another", y -> bit(y.turn(0, 0)), 0);
        for (int bad : new int[] {-1, 2, 3, HIGH, LOW}) {
            refused(2, "turn(0, " + bad + ")", y -> bit(y.turn(0, bad)), 0);
            refused(2, "turn(1, " + bad + ")", y -> bit(y.turn(1, bad)), 0);
        }
        for (int bad : BAD_CARBONS) {
            refused(2, "turn(" + bad + ", 1)", y -> bit(y.turn(bad, 1)), 0);
            refused(2, "turn(" + bad + ", 0)", y -> bit(y.turn(bad, 0)), 0);
        }
        due("turn(12, 1) of 12", x.turn(12, 1), false);

        sentence("Promise 25", "A CARBON is pulled (on 0), or put IN (1): true");
        CarbonMinistry z = of(AB + times(A_TO_B, 12));
        for (int c : each) {
            due("pull(" + c + ", 0)", z.pull(c, 0), true);
            due("has(4)", z.has(4), 11);
            due("carbon", z.carbon(c, 3), 0);
            due("pull(" + c + ", 1)", z.pull(c, 1), true);
            due("has(4)", z.has(4), 12);
            due("carbon", z.carbon(c, 3), 1);
        }
        due("has(9)", z.has(9), 6);
        z.turn(11, 1);
        due("one that is TURNED", z.pull(11, 0), true);
        due("it stays so", z.carbon(11, 4), 1);

        changesOnly("pull", y -> bit(y.pull(0, 0)), "carbon(0, 3)", "has(4)", "has(9)", "officer(0, ", "officer(1, ");
        changesOnly("pull of a TURNED one", y -> bit(y.pull(1, 0)), "carbon(1, 3)", "has(4)", "has(9)", "officer(1, ", "officer(2, ");
        changesOnly("put IN", y -> bit(y.pull(2, 1)), "carbon(2, 3)", "has(4)", "has(9)", "officer(0, ", "officer(2, ");

        sentence("Promise 25", "; false, refused (2), when it is so already, there is none such, or for others.");
        refused(2, "pull(2, 0) of one not IN", y -> bit(y.pull(2, 0)), 0);
        refused(2, "pull(0, 1) of one IN", y -> bit(y.pull(0, 1)), 0);
        for (int bad : new int[] {-1, 2, 3, HIGH, LOW}) {
            refused(2, "pull(0, " + bad + ")", y -> bit(y.pull(0, bad)), 0);
            refused(2, "pull(2, " + bad + ")", y -> bit(y.pull(2, bad)), 0);
        }
        for (int bad : BAD_CARBONS) {
            refused(2, "pull(" + bad + ", 1)", y -> bit(y.pull(bad, 1)), 0);
            refused(2, "pull(" + bad + ", 0)", y -> bit(y.pull(bad, 0)), 0);
        }
        due("pull(12, 0) of 12", z.pull(12, 0), false);
    }

    private static void days() {
        sentence("Promise 26", "n DAYS (1 .. 100): how many were ACTED on");
        CarbonMinistry x = of(AB + "feeling k;felt j of a is 99;felt k of b is 50;fades feel-1;acts feel>9;");
        due("days(1)", x.days(1), 2);
        due("has(3)", x.has(3), 1);
        due("feels", x.feels(0, 0), 98);
        due("days(100)", x.days(100), 88 + 39);
        due("has(3)", x.has(3), 101);
        due("has(9)", x.has(9), 2);
        due("has(7)", x.has(7), 40);
        due("days(99)", x.days(99), 0);
        due("has(3)", x.has(3), 200);

        changesOnly("days", y -> y.days(2), "feels(", "has(3)", "has(6)", "has(9)", "has(7)", "kept(");
        changesOnly("days on which none is ACTED on", y -> {
            y.put(0, 0, 0);
            y.put(1, 0, 0);
            y.put(2, 0, 0);
            return y.days(2) + 1;
        }, "feels(", "has(3)", "has(6)", "has(9)");

        sentence("Promise 26", "; NONE, refused (3), when it can't be (beyond DAY 999).");
        for (int bad : new int[] {0, -1, 101, HIGH, LOW}) {
            refused(3, "days(" + bad + ")", y -> y.days(bad), NONE);
        }
        int[][] edges = {{899, 100}, {900, 99}, {950, 49}, {998, 1}};
        for (int[] row : edges) {
            CarbonMinistry y = at(row[0]);
            due("days to DAY 999", y.days(row[1]) >= 0, true);
            due("has(3)", y.has(3), 999);
            refused(3, "days(" + (row[1] + 1) + ") at DAY " + row[0], () -> at(row[0]), z -> z.days(row[1] + 1), NONE);
        }
        refused(3, "days(1) at DAY 999", () -> at(999), y -> y.days(1), NONE);
        refused(3, "days(100) at DAY 999", () -> at(999), y -> y.days(100), NONE);
    }

    private static void chance() {
        sentence("Promise 27", "n DAYS by the seed (1 .. 100), one ACT: how many slips");
        CarbonMinistry x = of(AB + A_TO_B + "felt j of a is 99;fades feel-1;passes 0;acts feel>9;slip 100;");
        due("chance(1)", x.chance(1), 1);
        due("has(3)", x.has(3), 1);
        due("has(5)", x.has(5), 1);
        due("has(7)", x.has(7), 1);
        due("has(9)", x.has(9), 1);
        due("chance(100)", x.chance(100), 100);
        due("has(3)", x.has(3), 101);
        due("has(5)", x.has(5), 1);
        due("has(7)", x.has(7), 40);
        due("has(9)", x.has(9), 2);
        due("undo", x.undo(), true);
        due("has(3)", x.has(3), 1);
        due("has(5)", x.has(5), 1);
        due("has(7)", x.has(7), 1);
        due("feels", x.feels(0, 0), 98);
        due("no slips", of(AB + A_TO_B).chance(100), 0);

        changesOnly("chance", y -> y.chance(1) + 1, "feels(", "has(3)", "has(6)", "has(9)", "has(7)", "kept(", "carbon(0, 4)", "has(5)",
            "officer(0, ", "officer(1, ");

        sentence("Promise 27", "; NONE, refused (3), when it can't be.");
        for (int bad : new int[] {0, -1, 101, HIGH, LOW}) {
            refused(3, "chance(" + bad + ")", y -> y.chance(bad), NONE);
        }
        int[][] edges = {{899, 100}, {900, 99}, {950, 49}, {998, 1}};
        for (int[] row : edges) {
            CarbonMinistry y = at(row[0]);
            due("chance to DAY 999", y.chance(row[1]) >= 0, true);
            due("has(3)", y.has(3), 999);
            refused(3, "chance(" + (row[1] + 1) + ") at DAY " + row[0], () -> at(row[0]), z -> z.chance(row[1] + 1), NONE);
        }
        refused(3, "chance(1) at DAY 999", () -> at(999), y -> y.chance(1), NONE);
        // That nothing was drawn: the first draw, 18, is still to come.
        CarbonMinistry z = of(AB + A_TO_B + "slip 19;");
        z.chance(0);
        z.chance(101);
        due("chance", z.chance(1), 1);
    }

    private static void undo() {
        sentence("Promise 28", "The latest ACT is undone (the seed stays): true");
        CarbonMinistry x = of(OFFICE);
        Call[] acts = {y -> bit(y.put(0, 1, 9)), y -> bit(y.turn(1, 1)), y -> bit(y.pull(2, 0)),
            y -> y.days(3) + 1, y -> y.chance(3) + 1, y -> bit(y.turn(2, 1)), y -> bit(y.pull(2, 1)),
            y -> bit(y.put(0, 1, 77))};
        int[][] images = new int[acts.length][];
        int[] kept = new int[acts.length];
        for (int k = 0; k < acts.length; k++) {
            images[k] = image(x);
            kept[k] = x.has(7);
            due("an ACT", acts[k].of(x) > 0, true);
        }
        for (int k = acts.length - 1; k >= 0; k--) {
            due("undo", x.undo(), true);
            int[] again = image(x);
            for (int i = 0; i < again.length; i++) {
                due("octet(" + i + ") ahead of ACT " + k, again[i], images[k][i]);
            }
            due("has(7) ahead of ACT " + k, x.has(7), kept[k]);
            due("has(9)", x.has(9), k);
        }
        // What is KEPT is as it was, beyond the last 40 too.
        CarbonMinistry many = of(AB + "felt j of a is 99;fades 99-day/10;acts all;");
        many.days(45);
        many.put(1, 0, 9);
        many.days(77);
        due("the oldest", many.kept(0, 0), 102);
        many.undo();
        due("has(7)", many.has(7), 40);
        for (int k = 0; k < 40; k++) {
            due("kept(" + k + ", 0)", many.kept(k, 0), 5 + k);
            due("kept(" + k + ", 1)", many.kept(k, 1), 0);
            due("kept(" + k + ", 3)", many.kept(k, 3), 99 - (5 + k) / 10);
        }
        // The seed stays: an undone ACT of three draws leaves it where one that was not undone does.
        CarbonMinistry z = of("slip 100;");
        z.chance(3);
        z.undo();
        CarbonMinistry w = of("slip 100;");
        w.chance(3);
        String next = AB + times(A_TO_B, 12) + "slip 50;";
        read(z, next);
        read(w, next);
        for (int k = 0; k < 20; k++) {
            due("chance", z.chance(1), w.chance(1));
            due("has(5)", z.has(5), w.has(5));
        }
        // A seed that is told ahead of undo stays, too.
        CarbonMinistry v = of(AB + A_TO_B + "slip 19;");
        v.put(0, 0, 5);
        v.seed(2);
        v.undo();
        CarbonMinistry u = of(AB + A_TO_B + "slip 19;");
        u.seed(2);
        due("chance by the seed 2", v.chance(40), u.chance(40));

        changesOnly("undo of put", y -> bit(y.undo()), "feels(0, 1)", "has(6)", "has(9)");

        sentence("Promise 28", "; false, refused (4), when none can be.");
        refused(4, "undo of none", EdgeCalls::allUndone, y -> bit(y.undo()), 0);
        refused(4, "undo behind a MINISTRY", () -> of(OFFICE), y -> bit(y.undo()), 0);
        CarbonMinistry none = new CarbonMinistry();
        due("of a new object", none.undo(), false);
        due("status(4)", none.status(4), 1);
        due("undo again", none.undo(), false);
        due("status(4)", none.status(4), 2);
        due("behind an image", at(5).undo(), true);
        CarbonMinistry y = busy();
        goTo(y, 5);
        due("nothing of ahead of an image", y.undo(), false);
    }

    private static CarbonMinistry allUndone() {
        CarbonMinistry x = busy();
        for (int k = 0; k < 4; k++) {
            due("undo", x.undo(), true);
        }
        return x;
    }

    private static int[] image(CarbonMinistry x) {
        int[] b = new int[x.image()];
        for (int k = 0; k < b.length; k++) {
            b[k] = x.octet(k);
        }
        return b;
    }

    private static void seed() {
        sentence("Promise 29", "The seed: true");
        CarbonMinistry x = of(AB + A_TO_B + "slip 19;");
        due("seed(0)", x.seed(0), true);
        due("92 is its draw", x.chance(1), 0);
        due("seed(1)", x.seed(1), true);
        due("18 is its draw", x.chance(1), 1);
        due("seed(1) again", x.seed(1), true);
        due("18 is its draw", x.chance(1), 1);
        due("the greatest", x.seed(HIGH), true);
        due("99 is its draw", x.chance(1), 0);
        due("status(5)", x.status(5), 0);
        due("seed is no ACT", x.has(9), 4);

        changesOnly("seed", y -> bit(y.seed(5)));

        sentence("Promise 29", "; false, refused (5), when it is below 0.");
        for (int bad : new int[] {-1, -2, LOW, LOW + 1}) {
            refused(5, "seed(" + bad + ")", y -> bit(y.seed(bad)), 0);
        }

        sentence("Promise 29", "(It is 1 at first.)");
        for (int slip = 17; slip < 21; slip++) {
            due("by slip " + slip, of(AB + A_TO_B + "slip " + slip + ";").chance(1), slip > 18 ? 1 : 0);
        }
        CarbonMinistry y = of(OFFICE);
        CarbonMinistry z = of(OFFICE);
        z.seed(1);
        due("chance", y.chance(99), z.chance(99));
    }

    // ---- questions, images, refusals

    private static void askAny() {
        sentence("Promise 30", "The tape (it goes) is a QUESTION: its answer");
        CarbonMinistry x = of(OFFICE);
        due("total", ask(x, "total press"), 7);
        due("the tape goes", x.end(1), false);
        due("ask of no tape", x.ask(), NOTHING);
        due("first", ask(x, "first feels 0=60"), 0);
        due("last", ask(x, "last all"), 2);
        due("a total of -1", ask(x, "total 0-number/2"), -1);
        due("a total far below 0", ask(x, "total 0-9999*9999"), -3000000);
        for (String question : new String[] {"first all", "last not all", "often all", "total 1", "most day", "least 0-1"}) {
            leavesAllButFault("ask of " + question, y -> ask(y, question));
        }

        sentence("Promise 30", "; NONE of first, last, when its TEST holds for none");
        due("first", ask(x, "first not all"), NONE);
        due("last", ask(x, "last not all"), NONE);
        due("first", ask(x, "first press>5"), NONE);
        due("first, by one less", ask(x, "first press>4"), 0);
        due("last", ask(x, "last shape>7"), NONE);
        due("last, by one less", ask(x, "last shape>6"), 2);
        due("fault(0)", x.fault(0), 0);
        due("of nobody", ask(new CarbonMinistry(), "first all"), NONE);
        due("often", ask(x, "often not all"), 0);

        sentence("Promise 30", "; NOTHING with a FAULT.");
        puzzled(1, "@");
        puzzled(1, "first@");
        puzzled(1, "total 1 @total 1");
        puzzled(4, "total ((((((@(1)))))))");
        due("of a new object", ask(new CarbonMinistry(), "total"), NOTHING);
        due("status(1)", x.status(1), 0);
    }

    private static void images() {
        sentence("Promise 31", "AN IMAGE is written: how many bytes.");
        changesOnly("image", CarbonMinistry::image, "octet(");
        CarbonMinistry once = busy();
        CarbonMinistry twice = busy();
        due("once", once.image(), 15);
        due("twice", twice.image() + twice.image(), 30);
        alike(NONE, "image", twice, once);
        due("of nothing", new CarbonMinistry().image(), 3);
        due("of officers alone", of(lettered(8)).image(), 3);
        due("of feelings alone", of("feeling j;").image(), 3);
        due("of one and one", of("officer a shape 1 press 1;feeling j;").image(), 4);
        due("of OFFICE", of(OFFICE).image(), 15);
        due("of all", of(lettered(8) + "feeling w;feeling x;feeling y;feeling z;" + times(A_TO_B, 12)).image(), 59);

        sentence("Promise 32", "Byte k of the latest image()");
        CarbonMinistry x = of(OFFICE);
        x.image();
        int[] first = {0, 0, 1, 0, 1, 0, 1, 0, 60, 0, 0, 0, 0, 30, 143};
        for (int k = 0; k < 15; k++) {
            due("octet(" + k + ")", x.octet(k), first[k]);
        }
        x.put(2, 1, 31);
        x.days(1);
        x.undo();
        for (int k = 0; k < 15; k++) {
            due("octet(" + k + ") behind acts", x.octet(k), first[k]);
        }
        x.image();
        due("octet(13)", x.octet(13), 31);
        read(x, "");
        due("octet(13) behind a MINISTRY", x.octet(13), 31);
        due("image", x.image(), 3);
        due("octet(2)", x.octet(2), 161);

        sentence("Promise 32", "; NONE when there is none such.");
        due("octet(3) of 3", x.octet(3), NONE);
        due("octet(13) of 3", x.octet(13), NONE);
        for (int bad : new int[] {-1, 15, 16, HIGH, LOW}) {
            none("octet(" + bad + ")", y -> y.octet(bad));
        }
        due("octet(14) of 15", busy().octet(14) >= 0, true);
        due("ahead of any", new CarbonMinistry().octet(0), NONE);
        CarbonMinistry z = of(lettered(8) + "feeling w;feeling x;feeling y;feeling z;" + times(A_TO_B, 12));
        z.image();
        due("octet(58) of 59", z.octet(58) >= 0, true);
        due("octet(59) of 59", z.octet(59), NONE);
    }

    private static void on() {
        sentence("Promise 33", "The tape (it goes) is AN IMAGE of this MINISTRY: true, all is as it tells, "
            + "nothing is KEPT or can be undone");
        int[] image = sealed(3, 231, 0, 0, 1, 1, 0, 1, 99, 0, 0, 98, 1, 0);
        CarbonMinistry x = busy();
        due("has(7)", x.has(7) > 0, true);
        due("on", on(x, image), true);
        due("the tape goes", x.end(1), false);
        dueHas(x, 3, 2, 3, 999, 1, 2, 198, 0, 2, 0);
        int[] again = image(x);
        for (int k = 0; k < image.length; k++) {
            due("octet(" + k + ")", again[k], image[k]);
        }
        due("undo", x.undo(), false);
        due("status(5)", x.status(5), 0);
        // But for what is FOUND, refused and the seed, all is as on another object with that image.
        CarbonMinistry with = busy();
        CarbonMinistry fresh = of(OFFICE);
        int[] early = sealed(0, 9, 1, 0, 1, 1, 0, 1, 60, 0, 0, 44, 1, 0);
        on(with, early);
        fresh.seed(77);
        discover(fresh, 1, 1, 3, 0, 2, 0);
        ask(fresh, "total 1+");
        on(fresh, early);
        with.image();
        fresh.image();
        alike(NONE, "on", with, fresh);
        // The seed, which no image tells, stays.
        CarbonMinistry seeded = of(OFFICE);
        CarbonMinistry same = of(OFFICE);
        seeded.seed(2);
        same.seed(2);
        on(seeded, sealed(0, 0, 1, 0, 1, 0, 1, 0, 60, 0, 0, 0, 0, 30));
        for (int k = 0; k < 20; k++) {
            due("chance by the seed 2", seeded.chance(1), same.chance(1));
            due("has(5)", seeded.has(5), same.has(5));
        }
        due("of nothing", on(new CarbonMinistry(), 0, 0, 161), true);
        due("of officers alone", on(of(lettered(8)), sealed(3, 231)), true);

        sentence("Promise 33", "; false, refused (5), when it is none (DAY 999, strengths 99, flags 1 at most), all staying.");
        int[] most = {3, 231, 1, 1, 1, 1, 1, 1, 99, 99, 99, 99, 99, 99};
        due("the most of all", on(of(OFFICE), sealed(most)), true);
        for (int k = 1; k < most.length; k++) {
            int[] more = most.clone();
            more[k]++;
            refusedTape(5, "on with octet " + k + " one more", y -> bit(y.on()), 0, sealed(more));
        }
        refusedTape(5, "on with DAY 1024", y -> bit(y.on()), 0, sealed(4, 0, 1, 1, 1, 1, 1, 1, 9, 9, 9, 9, 9, 9));
        int[] fit = sealed(most);
        int[] unfit = fit.clone();
        unfit[14]++;
        refusedTape(5, "on with another last byte", y -> bit(y.on()), 0, unfit);
        refusedTape(5, "on with one byte less", y -> bit(y.on()), 0, java.util.Arrays.copyOf(fit, 14));
        refusedTape(5, "on with one byte more", y -> bit(y.on()), 0, java.util.Arrays.copyOf(fit, 16));
        refusedTape(5, "on with one byte more, which fits", y -> bit(y.on()), 0, sealed(fit));
        refusedTape(5, "on with the image of another MINISTRY", y -> bit(y.on()), 0, sealed(0, 0));
        refusedTape(5, "on with no tape", y -> bit(y.on()), 0);
        refusedTape(5, "on with 1600 bytes", y -> bit(y.on()), 0, new int[1600]);
        due("of a new object, no tape", new CarbonMinistry().on(), false);
        due("of a new object, two bytes", on(new CarbonMinistry(), 0, 0), false);
    }

    private static void status() {
        sentence("Promise 34", "How many were refused: 0 feed(), end(); 1 ministry(), discover(); 2 put(), turn(), pull(); "
            + "3 days(), chance(); 4 undo(); 5 seed(), on().");
        Call[] calls = {y -> bit(y.end(-1)), EdgeCalls::feedTooMuch, y -> read(y, "x"), y -> discover(y, 1),
            y -> bit(y.put(-1, 0, 0)), y -> bit(y.turn(0, 2)), y -> bit(y.pull(0, 2)), y -> y.days(0), y -> y.chance(0),
            y -> bit(y.undo()), y -> bit(y.seed(-1)), y -> bit(on(y, 1))};
        int[] kinds = {0, 0, 1, 1, 2, 2, 2, 3, 3, 4, 5, 5};
        CarbonMinistry x = of(OFFICE);
        int[] counts = new int[6];
        for (int again = 0; again < 2; again++) {
            for (int k = 0; k < calls.length; k++) {
                due("a refused call", calls[k].of(x) <= 0, true);
                counts[kinds[k]]++;
                for (int what = 0; what < 6; what++) {
                    due("status(" + what + ")", x.status(what), counts[what]);
                }
            }
        }
        read(x, OFFICE);
        for (int what = 0; what < 6; what++) {
            due("status(" + what + ") behind a MINISTRY", x.status(what), counts[what]);
        }

        sentence("Promise 34", "NONE for others.");
        for (int bad : new int[] {-1, 6, 7, HIGH, LOW}) {
            none("status(" + bad + ")", y -> y.status(bad));
        }
    }

    /** Fills the tape up and feeds once more. */
    private static long feedTooMuch(CarbonMinistry x) {
        for (int k = 0; k < 80; k++) {
            x.feed(0, 0, 0, 0, 0);
        }
        return x.feed(0, 0, 0, 0, 0);
    }

    private static void questionsLeaveAll() {
        sentence("Not promised", "Nothing is promised beyond the answers and state changes described above");
        leavesAll("fault", x -> x.fault(0) + x.fault(1));
        leavesAll("has", x -> x.has(0) + x.has(6) + x.has(9));
        leavesAll("letter", x -> x.letter(0, 2, 5));
        leavesAll("officer", x -> x.officer(2, 2) + x.officer(0, 3));
        leavesAll("carbon", x -> x.carbon(2, 4));
        leavesAll("feels", x -> x.feels(2, 1));
        leavesAll("passes", x -> x.passes(0, 0) + x.passes(1, 1));
        leavesAll("kept", x -> x.kept(0, 3));
        leavesAll("later", x -> x.later(2, 1, 60));
        leavesAll("settles", CarbonMinistry::settles);
        leavesAll("strongest", x -> x.strongest(1, 60));
        leavesAll("acted", x -> x.acted(60));
        leavesAll("turning", x -> x.turning(2, 1, 99, 20));
        leavesAll("steps", x -> x.steps(0, 2) + x.steps(2, 0));
        leavesAll("cutting", x -> x.cutting(0, 2) + x.cutting(2, 0));
        leavesAll("sources", x -> x.sources(1, NONE) + x.sources(0, 3));
        leavesAll("tells", x -> x.tells(1, 0) + x.tells(0, 2));
        leavesAll("octet", x -> x.octet(14));
        leavesAll("status", x -> x.status(0) + x.status(5));
        leavesAll("end of all", x -> bit(x.end(13)));
    }
}
