/** The sentences of "Terms" II and III, on days and what is ahead, and on images: the last value inside, the first outside. */
final class EdgeDays extends Desk {
    private static final String AB = "officer a shape 1 press 1;officer b shape 1 press 1;feeling j;";
    private static final String A_TO_B = "carbon a to b sheets 1;";

    private EdgeDays() {
    }

    static void run() {
        atFirst();
        leading();
        aDay();
        fading();
        passing();
        actedOn();
        dayByDay();
        bySeed();
        whichCarbonSlips();
        kept();
        acts();
        draws();
        ahead();
        settled();
        turns();
        stepsAndCuts();
        found();
        sources();
        telling();
        images();
        allIsNamed("II. Each OFFICER feels each FEELING", "III. AHEAD");
        allIsNamed("III. AHEAD are DAYS", "IV. A QUESTION");
        allIsNamed("AN IMAGE: DAY", "The constants:");
    }

    // ---- II

    private static void atFirst() {
        sentence("Terms", "II. Each OFFICER feels each FEELING by a strength, 0 .. 99, 0 at first, if it is not told.");
        CarbonMinistry x = of(lettered(8) + "feeling w;feeling x;feeling y;feeling z;felt y of d is 99;felt z of d is 1;");
        for (int o = 0; o < 8; o++) {
            for (int f = 0; f < 4; f++) {
                due("feels(" + o + ", " + f + ")", x.feels(o, f), o != 3 || f < 2 ? 0 : f == 2 ? 99 : 1);
            }
        }
        CarbonMinistry y = of(AB + "felt j of a is 99;felt j of b is 1;fades feel*9999-500;");
        y.days(1);
        due("not above 99", y.feels(0, 0), 99);
        y.put(1, 0, 0);
        y.put(0, 0, 0);
        due("has(6)", y.has(6), 0);
        CarbonMinistry z = of(AB + "felt j of a is 1;fades 0-9999;");
        z.days(1);
        due("not below 0", z.feels(0, 0), 0);
        due("has(6)", z.has(6), 0);

        sentence("Terms", "It is DAY 0 at first; each CARBON is IN, and not TURNED.");
        String twelve = AB + times(A_TO_B, 12);
        CarbonMinistry w = of(twelve);
        for (int again = 0; again < 2; again++) {
            due("has(3)", w.has(3), 0);
            due("has(4)", w.has(4), 12);
            due("has(5)", w.has(5), 0);
            for (int c = 0; c < 12; c++) {
                due("IN", w.carbon(c, 3), 1);
                due("TURNED", w.carbon(c, 4), 0);
            }
            w.days(9);
            w.turn(0, 1);
            w.turn(11, 1);
            w.pull(0, 0);
            w.pull(11, 0);
            read(w, twelve);
        }
    }

    private static void leading() {
        sentence("Terms", "A CARBON that is IN leads from its first OFFICER to the second one, "
            + "if it is TURNED from the second to the first.");
        CarbonMinistry x = of(AB + A_TO_B + "felt j of a is 20;felt j of b is 40;");
        int[][] due = {{1, 0, 19, 0, 19}, {1, 1, 39, 39, 0}, {0, 1, 0, 0, 0}, {0, 0, 0, 0, 0}, {1, 0, 19, 0, 19}};
        for (int[] row : due) {
            x.pull(0, row[0]);
            x.turn(0, row[1]);
            String how = ", IN " + row[0] + ", TURNED " + row[1];
            due("passes" + how, x.passes(0, 0), row[2]);
            due("later of a" + how, x.later(0, 0, 1), row[3]);
            due("later of b" + how, x.later(1, 0, 1), row[4]);
            boolean on = row[0] == 1;
            boolean back = row[1] == 1;
            due("steps a b" + how, x.steps(0, 1), on && !back ? 1 : NONE);
            due("steps b a" + how, x.steps(1, 0), on && back ? 1 : NONE);
            due("cutting a b" + how, x.cutting(0, 1), on && !back ? 1 : 0);
            due("cutting b a" + how, x.cutting(1, 0), on && back ? 1 : 0);
            due("officer to b" + how, x.officer(1, 2), on && !back ? 1 : 0);
            due("officer from b" + how, x.officer(1, 3), on && back ? 1 : 0);
            due("carbon's first" + how, x.carbon(0, 0), 0);
            due("carbon's second" + how, x.carbon(0, 1), 1);
        }
    }

    private static void aDay() {
        sentence("Terms", "A DAY: of each OFFICER, each FEELING the strength behind it is, by what is so ahead of it, "
            + "all at once, together, 99 at most");
        // All at once: along three carbons in a row it takes three days, whichever way they are told.
        String[] rows = {"carbon a to b sheets 1;carbon b to c sheets 1;carbon c to d sheets 1;",
            "carbon c to d sheets 1;carbon b to c sheets 1;carbon a to b sheets 1;"};
        for (String row : rows) {
            CarbonMinistry x = of(lettered(4) + "feeling j;felt j of a is 50;passes strength;" + row);
            for (int n = 0; n < 4; n++) {
                for (int o = 0; o < 4; o++) {
                    due("later(" + o + ", 0, " + n + ")", x.later(o, 0, n), o == n ? 50 : 0);
                }
            }
            CarbonMinistry y = of(lettered(4) + "feeling j;felt j of d is 50;passes strength;" + row);
            due("not against them", y.later(2, 0, 1), 0);
        }
        CarbonMinistry swap = of(AB + A_TO_B + "carbon b to a sheets 1;felt j of a is 7;felt j of b is 9;passes strength;");
        swap.days(1);
        due("a has b's", swap.feels(0, 0), 9);
        due("b has a's", swap.feels(1, 0), 7);
        // Together, 99 at most: what stays, and what comes through one carbon and another.
        int[][] due = {{48, 50, 98}, {49, 50, 99}, {50, 50, 99}, {99, 99, 99}, {0, 1, 1}};
        for (int[] row : due) {
            String text = AB + A_TO_B + "felt j of a is 1;felt j of b is " + row[1] + ";fades feel;passes " + row[0] + ";";
            due("stays " + row[1] + ", comes " + row[0], of(text).later(1, 0, 1), row[2]);
        }
        int[][] both = {{49, 49, 98}, {50, 49, 99}, {50, 50, 99}, {99, 99, 99}};
        for (int[] row : both) {
            String text = "officer a shape 1 press 1;officer b shape 1 press 1;officer c shape 1 press 1;feeling j;"
                + "carbon a to c sheets 1;carbon b to c sheets 1;passes strength;felt j of a is " + row[0]
                + ";felt j of b is " + row[1] + ";";
            due("come " + row[0] + " and " + row[1], of(text).later(2, 0, 1), row[2]);
        }
        due("12 by 8", of(AB + times(A_TO_B, 12) + "felt j of a is 9;").later(1, 0, 1), 96);
        due("12 by 9", of(AB + times(A_TO_B, 12) + "felt j of a is 10;").later(1, 0, 1), 99);
        due("12 by 98", of(AB + times(A_TO_B, 12) + "felt j of a is 99;").later(1, 0, 1), 99);
        // Each FEELING by itself.
        CarbonMinistry z = of(AB + "feeling k;" + A_TO_B + "felt j of a is 9;felt k of a is 5;felt k of b is 3;fades feel;");
        z.days(1);
        due("joy of b", z.feels(1, 0), 8);
        due("another of b", z.feels(1, 1), 7);
    }

    private static void fading() {
        sentence("Terms", "if it is above 0, the SUM of fades, 0 .. 99 (below is 0, above 99)");
        due("felt by 0", of(AB + "fades 7;").later(0, 0, 1), 0);
        due("felt by 0, but by another", of(AB + "felt j of b is 5;fades 7;").later(0, 0, 1), 0);
        due("felt by 1", of(AB + "felt j of a is 1;fades 7;").later(0, 0, 1), 7);
        int[][] due = {{-9999, 0}, {-1, 0}, {0, 0}, {1, 1}, {98, 98}, {99, 99}, {100, 99}, {9999, 99}};
        for (int[] row : due) {
            String sum = row[0] < 0 ? "0-" + -row[0] : "" + row[0];
            String text = AB + A_TO_B + "felt j of b is 1;felt j of a is 6;passes 5;fades " + sum + ";";
            due("fades " + sum, of(text).later(0, 0, 1), row[1]);
            // Below 0 it takes nothing off what comes.
            due("fades " + sum + ", and 5 come", of(text).later(1, 0, 1), Math.min(99, row[1] + 5));
        }
    }

    private static void passing() {
        sentence("Terms", "; and for each CARBON that leads to him from one by whom it is felt by more than 0 the SUM of passes, "
            + "0 .. 99 (below is 0, above 99).");
        due("felt by 0", of(AB + A_TO_B + "passes 7;").later(1, 0, 1), 0);
        due("felt by 1", of(AB + A_TO_B + "felt j of a is 1;passes 7;").later(1, 0, 1), 7);
        due("felt by 0, but by another", of(AB + A_TO_B + "felt j of b is 5;passes 7;").later(1, 0, 1), 0);
        due("felt by 0, and what stays", of(AB + A_TO_B + "felt j of b is 5;passes 7;fades feel;").later(1, 0, 1), 5);
        int[][] due = {{-9999, 0}, {-1, 0}, {0, 0}, {1, 1}, {98, 98}, {99, 99}, {100, 99}, {9999, 99}};
        for (int[] row : due) {
            String sum = row[0] < 0 ? "0-" + -row[0] : "" + row[0];
            String text = AB + A_TO_B + "felt j of a is 1;felt j of b is 1;fades 5;passes " + sum + ";";
            due("passes " + sum, of(text).passes(0, 0), row[1]);
            due("passes " + sum + ", and 5 stay", of(text).later(1, 0, 1), Math.min(99, row[1] + 5));
        }
        // Below 0 through one CARBON takes nothing off what comes through another.
        String two = AB + A_TO_B + "carbon a to b sheets 9;felt j of a is 5;";
        due("4 and below 0", of(two).later(1, 0, 1), 4);
        CarbonMinistry x = of(AB + times(A_TO_B, 3) + "felt j of a is 21;");
        due("three", x.later(1, 0, 1), 60);
        x.pull(0, 0);
        due("two IN", x.later(1, 0, 1), 40);
        x.turn(1, 1);
        due("one leads there", x.later(1, 0, 1), 20);
        due("the other leads from one by 0", x.later(0, 0, 1), 0);
    }

    private static void actedOn() {
        sentence("Terms", "THEN, by the strengths behind it, OFFICER by OFFICER, FEELING by FEELING: each of a strength above 0 "
            + "for which the TEST of acts holds is ACTED on.");
        CarbonMinistry x = of(AB + A_TO_B + "felt j of a is 60;passes strength;acts feel=60;");
        due("days", x.days(1), 1);
        due("the OFFICER to whom it came", x.kept(0, 1), 1);
        due("the strength", x.kept(0, 3), 60);
        due("days", x.days(1), 0);
        due("by 0", of(AB + "fades 0;felt j of a is 9;acts all;").days(1), 0);
        due("by 1", of(AB + "fades 1;felt j of a is 9;acts all;").days(1), 1);
        due("by 0, never", of(AB + "acts feel=0;").days(9), 0);
        due("the TEST holds for none", of(AB + "fades 1;felt j of a is 9;acts not all;").days(1), 0);
        due("51 and no more", of(AB + "fades feel;felt j of a is 51;felt j of b is 50;acts feel>50;").days(1), 1);
        // OFFICER by OFFICER, FEELING by FEELING.
        CarbonMinistry y = of(lettered(8) + "feeling w;feeling x;feeling y;feeling z;fades feel;acts all;"
            + "felt z of h is 1;felt w of a is 2;felt z of a is 3;felt x of c is 4;felt w of h is 5;felt y of c is 6;");
        due("days", y.days(2), 12);
        int[][] due = {{0, 0, 2}, {0, 3, 3}, {2, 1, 4}, {2, 2, 6}, {7, 0, 5}, {7, 3, 1}};
        for (int k = 0; k < 12; k++) {
            due("kept(" + k + ", 0)", y.kept(k, 0), k / 6);
            for (int what = 1; what < 4; what++) {
                due("kept(" + k + ", " + what + ")", y.kept(k, what), due[k % 6][what - 1]);
            }
        }
        // The DAY of the TEST, and of what is KEPT, is the one that passes.
        CarbonMinistry z = of(AB + "fades feel;felt j of a is 9;acts day=1;");
        due("DAY 0", z.days(1), 0);
        due("DAY 1", z.days(1), 1);
        due("kept", z.kept(0, 0), 1);
        due("DAY 2", z.days(1), 0);
    }

    private static void dayByDay() {
        sentence("Terms", "The DAY is one more (999 at most).");
        CarbonMinistry x = of(AB + A_TO_B + "felt j of a is 60;slip 50;");
        x.days(1);
        due("has(3)", x.has(3), 1);
        x.chance(1);
        due("has(3)", x.has(3), 2);
        goTo(x, 998);
        due("days", x.days(1), 0);
        due("has(3)", x.has(3), 999);
        x.undo();
        due("chance", x.chance(1) >= 0, true);
        due("has(3)", x.has(3), 999);
        refused(3, "days(1) at DAY 999", () -> at(999), y -> y.days(1), NONE);
        refused(3, "chance(1) at DAY 999", () -> at(999), y -> y.chance(1), NONE);
    }

    private static CarbonMinistry at(int day) {
        CarbonMinistry x = busy();
        goTo(x, day);
        put(x, "total day");
        return x;
    }

    /** The draws of a seed, one after another. */
    private static final class Draws {
        private long x;

        Draws(long seed) {
            x = seed;
        }

        int next(int m) {
            x = java.math.BigInteger.valueOf(1103515245L).multiply(java.math.BigInteger.valueOf(x))
                .add(java.math.BigInteger.valueOf(12345)).mod(java.math.BigInteger.ONE.shiftLeft(31)).longValueExact();
            return (int) (x / 64 % m);
        }
    }

    /** The least seed whose first draw of 100 is told. */
    private static int drawing(int first) {
        int seed = 0;
        while (new Draws(seed).next(100) != first) {
            seed++;
        }
        return seed;
    }

    private static void bySeed() {
        sentence("Terms", "BY THE SEED a DAY begins with a DRAW of 100: below slip");
        for (int seed : new int[] {1, 2, 3, 77, 0, HIGH, drawing(0), drawing(1), drawing(98), drawing(99)}) {
            int first = new Draws(seed).next(100);
            for (int slip : new int[] {0, first - 1, first, first + 1, 100}) {
                if (slip < 0 || slip > 100) {
                    continue;
                }
                CarbonMinistry x = of(AB + A_TO_B + "slip " + slip + ";");
                x.seed(seed);
                due("slips of seed " + seed + " by " + slip, x.chance(1), first < slip ? 1 : 0);
                due("has(5)", x.has(5), first < slip ? 1 : 0);
            }
        }
        CarbonMinistry without = of(AB + A_TO_B);
        without.seed(drawing(0));
        due("a DRAW of 0, without slip", without.chance(1), 0);
        // It begins so: what is TURNED then leads the other way on that DAY.
        CarbonMinistry y = of(AB + A_TO_B + "felt j of a is 9;felt j of b is 6;slip 100;passes strength;acts all;");
        due("chance", y.chance(1), 1);
        due("a has b's", y.feels(0, 0), 6);
        due("b has none", y.feels(1, 0), 0);
        due("kept", y.has(7), 1);
        due("kept, of a", y.kept(0, 1), 0);
        // DAYS without the seed draw nothing.
        CarbonMinistry z = of(AB + A_TO_B + "slip 100;");
        due("days", z.days(3), 0);
        due("has(5)", z.has(5), 0);
        Draws draws = new Draws(1);
        CarbonMinistry w = of(AB + A_TO_B + "slip 19;");
        w.days(5);
        due("18 is the first draw yet", draws.next(100), 18);
        due("chance", w.chance(1), 1);
    }

    private static void whichCarbonSlips() {
        sentence("Terms", "if there are CARBONS, a DRAW of these: that one is TURNED, if it is not, else turned back "
            + "(whether IN or not).");
        for (int many : new int[] {1, 2, 3, 7, 11, 12}) {
            for (int slip : new int[] {0, 30, 100}) {
                CarbonMinistry x = of(AB + times(A_TO_B, many) + "slip " + slip + ";");
                x.pull(0, 0);
                x.pull(many - 1, many == 1 ? 1 : 0);
                x.turn(many / 2, 1);
                Draws draws = new Draws(1);
                int turned = 1 << many / 2;
                for (int n : new int[] {1, 1, 1, 9, 60}) {
                    int slips = 0;
                    for (int k = 0; k < n; k++) {
                        if (draws.next(100) < slip) {
                            turned ^= 1 << draws.next(many);
                            slips++;
                        }
                    }
                    due("chance(" + n + ") of " + many + " by " + slip, x.chance(n), slips);
                    due("has(5)", x.has(5), Integer.bitCount(turned));
                    for (int c = 0; c < many; c++) {
                        due("carbon(" + c + ", 4)", x.carbon(c, 4), turned >> c & 1);
                    }
                }
                due("has(4)", x.has(4), many == 1 ? 1 : many - 2);
            }
        }
        // A DAY draws once at least, without CARBONS and whatever slip is: the fourth draw is the next one.
        Draws draws = new Draws(1);
        for (int k = 0; k < 3; k++) {
            draws.next(100);
        }
        int fourth = draws.next(100);
        for (String text : new String[] {"slip 100;", "slip 0;", "", AB + A_TO_B, AB + A_TO_B + "slip 0;", AB + "slip 50;"}) {
            for (int slip = fourth - 1; slip <= fourth + 1; slip++) {
                CarbonMinistry y = of(text);
                due("chance of " + text, y.chance(3), 0);
                read(y, AB + A_TO_B + "slip " + slip + ";");
                due("the fourth draw behind " + text + ", below " + slip, y.chance(1), fourth < slip ? 1 : 0);
            }
        }
    }

    private static void kept() {
        sentence("Terms", "KEPT is each that is ACTED on: DAY, OFFICER, FEELING, strength; the last 40 are told.");
        CarbonMinistry x = of(AB + "fades 99-day/10;felt j of b is 99;acts all;");
        int[] behind = {39, 40, 41, 42, 80, 81};
        int day = 0;
        for (int n : behind) {
            due("days", x.days(n - day), n - day);
            day = n;
            int told = Math.min(n, 40);
            due("has(7)", x.has(7), told);
            due("the oldest", x.kept(0, 0), n - told);
            due("its strength", x.kept(0, 3), 99 - (n - told) / 10);
            due("the latest", x.kept(told - 1, 0), n - 1);
            due("its OFFICER", x.kept(told - 1, 1), 1);
            due("its FEELING", x.kept(told - 1, 2), 0);
            due("its strength", x.kept(told - 1, 3), 99 - (n - 1) / 10);
            due("behind the latest", x.kept(told, 0), NONE);
        }
        // More in one DAY than are told: 32 a day.
        StringBuilder all = new StringBuilder(lettered(8) + "feeling w;feeling x;feeling y;feeling z;fades feel;acts all;");
        for (int k = 0; k < 32; k++) {
            all.append("felt ").append((char) ('w' + k % 4)).append(" of ").append((char) ('a' + k / 4)).append(" is ")
                .append(99 - k).append(';');
        }
        CarbonMinistry y = of(all.toString());
        due("days", y.days(2), 64);
        for (int k = 0; k < 40; k++) {
            int row = k + 24;
            due("DAY", y.kept(k, 0), row / 32);
            due("OFFICER", y.kept(k, 1), row % 32 / 4);
            due("FEELING", y.kept(k, 2), row % 4);
            due("strength", y.kept(k, 3), 99 - row % 32);
        }
        goTo(y, 998);
        y.days(1);
        due("DAY 998", y.kept(31, 0), 998);
        due("has(7)", y.has(7), 32);
    }

    private static void acts() {
        sentence("Terms", "ACTS: an OFFICER feels a FEELING by another strength; a CARBON is TURNED, or turned back; it is pulled "
            + "(it is not IN), or put IN; DAYS; DAYS by the seed.");
        CarbonMinistry x = of(AB + A_TO_B + "felt j of a is 60;");
        Call[] each = {y -> bit(y.put(0, 0, 61)), y -> bit(y.turn(0, 1)), y -> bit(y.turn(0, 0)), y -> bit(y.pull(0, 0)),
            y -> bit(y.pull(0, 1)), y -> y.days(100) + 1, y -> y.chance(100) + 1};
        for (int k = 0; k < each.length; k++) {
            due("an ACT", each[k].of(x) > 0, true);
            due("has(9)", x.has(9), k + 1);
        }
        // What is none: a seed, questions, images, what is found, and ACTS that are refused.
        x.seed(5);
        ask(x, "total 1");
        x.image();
        discover(x, 0, 0, 1);
        x.put(0, 0, x.feels(0, 0));
        x.turn(0, 0);
        x.pull(0, 1);
        x.days(0);
        x.chance(101);
        due("has(9)", x.has(9), each.length);
        int[][] before = {{0, 1, 0, 60}, {0, 1, 0, 61}, {0, 1, 1, 61}, {0, 1, 0, 61}, {0, 0, 0, 61}, {0, 1, 0, 61}, {100, 1, 0, 0}};
        for (int k = each.length - 1; k >= 0; k--) {
            due("undo", x.undo(), true);
            for (int what = 0; what < 4; what++) {
                due("has(" + (what + 3) + ") ahead of ACT " + k, x.has(what + 3), before[k][what]);
            }
            due("has(9)", x.has(9), k);
        }

        sentence("Terms", "The last 20 can be undone.");
        for (int n : new int[] {1, 19, 20, 21, 39, 40, 41}) {
            CarbonMinistry y = of(AB);
            for (int k = 1; k <= n; k++) {
                y.put(0, 0, k);
            }
            int most = Math.min(n, 20);
            due("has(9) of " + n, y.has(9), most);
            for (int k = 1; k <= most; k++) {
                due("undo", y.undo(), true);
                due("feels", y.feels(0, 0), n - k);
                due("has(9)", y.has(9), most - k);
            }
            due("one undo more", y.undo(), false);
            due("feels", y.feels(0, 0), n - most);
            due("status(4)", y.status(4), 1);
        }
        // Undone ones make room, in the midst too.
        CarbonMinistry z = of(AB);
        for (int k = 1; k <= 25; k++) {
            z.put(0, 0, k);
        }
        for (int k = 0; k < 15; k++) {
            z.undo();
        }
        for (int k = 40; k < 55; k++) {
            z.put(0, 0, k);
        }
        due("has(9)", z.has(9), 20);
        for (int k = 0; k < 15; k++) {
            z.undo();
        }
        due("feels", z.feels(0, 0), 10);
        for (int k = 0; k < 5; k++) {
            due("undo", z.undo(), true);
        }
        due("feels", z.feels(0, 0), 5);
        due("undo", z.undo(), false);
    }

    private static void draws() {
        sentence("Terms", "A DRAW of m: x (the seed) becomes (1103515245 x + 12345) mod 2 to the 31; floor(x / 64) mod m.");
        // By hand: 1 becomes 1103527590, a 64th of which is 17242618.
        due("of seed 1", new Draws(1).next(100), 18);
        due("of seed 0: 12345 / 64 is 192", new Draws(0).next(100), 92);
        // 2147483647 becomes 2 to the 31 less 1103502900, 1043980748, a 64th of which is 16312199.
        due("of the greatest seed", new Draws(HIGH).next(100), 99);
        for (int seed : new int[] {0, 1, 2, 63, 64, 1 << 30, HIGH - 1, HIGH}) {
            CarbonMinistry x = of(AB + times(A_TO_B, 11) + "slip 50;");
            due("seed", x.seed(seed), true);
            Draws draws = new Draws(seed);
            int turned = 0;
            for (int day = 0; day < 12; day++) {
                int slips = 0;
                if (draws.next(100) < 50) {
                    turned ^= 1 << draws.next(11);
                    slips = 1;
                }
                due("chance by seed " + seed + " on DAY " + day, x.chance(1), slips);
                due("has(5)", x.has(5), Integer.bitCount(turned));
            }
            for (int c = 0; c < 11; c++) {
                due("carbon(" + c + ", 4)", x.carbon(c, 4), turned >> c & 1);
            }
        }
    }

    // ---- III

    private static void ahead() {
        sentence("Terms", "III. AHEAD are DAYS as they come from now on without DRAWS (60 at most, not beyond DAY 999).");
        CarbonMinistry x = of(AB + A_TO_B + "felt j of a is 60;fades feel;slip 100;passes day;acts all;");
        due("60 days", x.later(1, 0, 60), 99);
        due("61 days", x.later(1, 0, 61), NONE);
        due("without DRAWS", x.later(1, 0, 3), 0 + 1 + 2);
        due("without DRAWS", x.acted(2), 1 + 2);
        due("has(3)", x.has(3), 0);
        due("has(5)", x.has(5), 0);
        due("has(7)", x.has(7), 0);
        due("the first draw yet", x.chance(1), 1);
        x.undo();
        int[][] days = {{939, 60, 1}, {940, 59, 1}, {940, 60, 0}, {998, 1, 1}, {998, 2, 0}, {999, 0, 1}, {999, 1, 0}};
        for (int[] row : days) {
            goTo(x, row[0]);
            boolean comes = row[2] == 1;
            String from = " from DAY " + row[0] + " on, " + row[1];
            due("later" + from, x.later(0, 0, row[1]), comes ? 60 : NONE);
            due("strongest" + from, x.strongest(0, row[1]) != NONE, comes);
            due("acted" + from, x.acted(row[1]) != NONE, comes);
        }
        byTheDay();
        // From now on: what is so now counts.
        CarbonMinistry y = of(AB + A_TO_B + "felt j of a is 60;fades feel;passes day;");
        y.days(4);
        due("DAYS 4 and 5", y.later(1, 0, 2) - y.feels(1, 0), 9);
    }

    /** Each of the DAYS AHEAD by its own number, from the DAY on which it is asked. */
    private static void byTheDay() {
        String text = lettered(3) + "feeling j;carbon a to b sheets 1;carbon b to c sheets 1;felt j of a is 50;"
            + "fades feel*max(0,min(1,day-4));passes max(0,strength-day);acts day=7 and feel>0;";
        CarbonMinistry x = of(text);
        due("a fades on DAY 0", x.later(0, 0, 1), 0);
        due("b has it less DAY 0", x.later(1, 0, 1), 50);
        due("c has it less DAY 1", x.later(2, 0, 2), 49);
        due("settles", x.settles(), 3);
        due("acted", x.acted(60), 0);
        due("strongest", x.strongest(0, 2), 2);
        due("turning", x.turning(0, 0, 49, 2), NONE);
        discover(x, 2, 2, 49);
        due("the source", x.sources(0, 0), 50);
        due("how many", x.sources(0, NONE), 1);
        goTo(x, 6);
        due("a stays on DAY 6", x.later(0, 0, 1), 50);
        due("b has it less DAY 6", x.later(1, 0, 1), 44);
        due("b has what stays and it less DAY 7", x.later(1, 0, 2), 87);
        due("acted on DAY 7", x.acted(2), 3);
        due("acted on DAY 6", x.acted(1), 0);
        due("acted", x.acted(60), 3);
        due("strongest", x.strongest(0, 1), 0);
        due("strongest", x.strongest(0, 2), 1);
        x.put(0, 0, 0);
        x.put(1, 0, 50);
        due("turning on DAY 6", x.turning(0, 0, 44, 1), 1);
        due("turning on DAY 6, one more", x.turning(0, 0, 45, 1), NONE);
        due("turning on DAYS 6 and 7", x.turning(0, 0, 87, 2), 1);
        due("turning on DAYS 6 and 7, one more", x.turning(0, 0, 88, 2), NONE);
        discover(x, 2, 2, 37, 2, 0, 50);
        due("the source of 44 less 7", x.sources(0, 0), 50);
        due("how many", x.sources(0, NONE), 1);
    }

    private static void settled() {
        sentence("Terms", "SETTLED is all behind the fewest DAYS behind which each strength is as it is one DAY later.");
        String one = "officer a shape 0 press 0;officer b shape 0 press 0;feeling j;feeling k;fades feel-1;";
        due("nothing felt", of(one).settles(), 0);
        due("by 1", of(one + "felt j of a is 1;").settles(), 1);
        due("by 59", of(one + "felt j of a is 59;").settles(), 59);
        due("by 60", of(one + "felt j of a is 60;").settles(), NONE);
        due("the last of each", of(one + "felt j of a is 3;felt k of b is 8;felt k of a is 5;").settles(), 8);
        due("what stays", of(AB + "felt j of a is 60;fades feel;").settles(), 0);
        // The fewest: it does not matter that all changes again.
        due("the fewest", of(AB + "felt j of a is 9;fades feel+min(1,max(0,day-4));").settles(), 0);
        due("the fewest", of(AB + "felt j of a is 9;fades feel-min(1,day)+min(1,max(0,day-4));").settles(), 0);
        due("the fewest", of(AB + "felt j of a is 9;fades feel+1-min(1,max(0,day-3))+min(1,max(0,day-6));").settles(), 4);
        // To and fro it never settles.
        due("to and fro", of(AB + A_TO_B + "carbon b to a sheets 1;felt j of a is 9;passes strength;").settles(), NONE);
        due("alike to and fro", of(AB + A_TO_B + "carbon b to a sheets 1;felt j of a is 9;felt j of b is 9;passes strength;")
            .settles(), 0);
    }

    private static void turns() {
        sentence("Terms", "TURNS for an OFFICER, a FEELING are the fewest CARBONS that are IN, turned now (or back), "
            + "so that he feels it by a told strength, or more, behind n DAYS");
        String three = lettered(3) + "feeling j;passes strength;fades feel;felt j of b is 50;";
        // One of a great number rather than two of small ones.
        CarbonMinistry x = of(three + "carbon c to b sheets 1;carbon a to c sheets 1;carbon a to b sheets 1;");
        due("the fewest", x.turning(0, 0, 50, 2), 4);
        due("by the strength", x.turning(0, 0, 99, 2), 4);
        due("of 2 days", x.turning(0, 0, 50, 1), 4);
        x.pull(2, 0);
        due("those IN", x.turning(0, 0, 50, 2), 3);
        due("not in a day", x.turning(0, 0, 50, 1), NONE);
        x.turn(0, 1);
        due("TURNED already", x.turning(0, 0, 50, 2), 2);
        x.turn(1, 1);
        due("both TURNED", x.turning(0, 0, 50, 2), 0);
        due("turned back", x.turning(2, 0, 99, 9), 0);
        x.pull(2, 1);
        x.turn(2, 1);
        x.put(1, 0, 0);
        x.put(2, 0, 50);
        due("turned back", x.turning(1, 0, 50, 1), 1);
        due("turned back, the other way round", x.turning(1, 0, 50, 2), 1);
        x.pull(0, 0);
        due("turned back, by a", x.turning(1, 0, 50, 2), 4);
        due("has(5)", x.has(5), 3);
        // By a strength, or more.
        CarbonMinistry y = of(AB + times(A_TO_B, 12) + "felt j of b is 9;");
        due("by 1", y.turning(0, 0, 1, 1), 1);
        due("by 8", y.turning(0, 0, 8, 1), 1);
        due("by 9", y.turning(0, 0, 9, 1), 3);
        due("by 88", y.turning(0, 0, 88, 1), 2047);
        due("by 89", y.turning(0, 0, 89, 1), 4095);
        due("by 96", y.turning(0, 0, 96, 1), 4095);
        due("by 97", y.turning(0, 0, 97, 1), NONE);
        due("none to be turned", y.turning(1, 0, 9, 0), 0);
        due("none helps now", y.turning(1, 0, 10, 0), NONE);
        y.put(1, 0, 10);
        due("by 99 of 108", y.turning(0, 0, 99, 1), 2047);

        sentence("Terms", "so that he feels it by a told strength, or more, behind n DAYS; of like ones the least bits.");
        CarbonMinistry z = of(AB + times(A_TO_B, 12) + "felt j of b is 9;");
        due("one of twelve", z.turning(0, 0, 8, 1), 1);
        due("two of twelve", z.turning(0, 0, 16, 1), 3);
        z.pull(0, 0);
        due("one of eleven", z.turning(0, 0, 8, 1), 2);
        due("two of eleven", z.turning(0, 0, 16, 1), 6);
        for (int c = 1; c < 11; c++) {
            z.pull(c, 0);
        }
        due("the last", z.turning(0, 0, 8, 1), 2048);
        due("two of one", z.turning(0, 0, 9, 1), NONE);
        // As bits, not by which comes first: 1 and 2 are less than 0 and 3.
        CarbonMinistry w = of(lettered(4) + "feeling j;fades feel;passes strength-1;felt j of b is 50;carbon c to b sheets 1;"
            + "carbon d to b sheets 1;carbon a to d sheets 1;carbon a to c sheets 1;");
        due("6 rather than 9", w.turning(0, 0, 48, 2), 6);
        // Farther off, behind two CARBONS or three that lead between the same two.
        for (int many = 1; many <= 3; many++) {
            CarbonMinistry far = of(lettered(4) + "feeling j;felt j of d is 50;passes strength;" + times("carbon b to a sheets 1;", many)
                + times("carbon b to c sheets 1;", many) + "carbon c to d sheets 1;");
            due("one that is far off, one between", far.turning(0, 0, 50, 3), 1 << many | 1 << 2 * many);
            due("not as soon", far.turning(0, 0, 50, 2), NONE);
            due("twice as much by two", far.turning(0, 0, 99, 3), many == 1 ? NONE : 1 << many | 1 << 2 * many);
        }
    }

    private static void stepsAndCuts() {
        sentence("Terms", "STEPS from one OFFICER to another are the fewest CARBONS, one behind the other, that lead there.");
        StringBuilder row = new StringBuilder(lettered(8));
        for (int k = 6; k >= 0; k--) {
            row.append("carbon ").append((char) ('a' + k)).append(" to ").append((char) ('b' + k)).append(" sheets 1;");
        }
        CarbonMinistry x = of(row + "carbon a to h sheets 9;carbon a to d sheets 9;carbon a to d sheets 9;");
        due("at once", x.steps(0, 7), 1);
        x.pull(7, 0);
        due("by d", x.steps(0, 7), 5);
        x.pull(8, 0);
        due("by the other carbon to d", x.steps(0, 7), 5);
        x.turn(9, 1);
        due("all along", x.steps(0, 7), 7);
        due("back by d", x.steps(3, 1), 2);
        due("not back", x.steps(7, 0), NONE);
        x.pull(3, 0);
        due("a gap", x.steps(0, 7), NONE);
        due("up to the gap", x.steps(0, 3), 3);

        sentence("Terms", "A CUT from one to another are the fewest CARBONS that are IN, pulled now, "
            + "so that no row of CARBONS leads there.");
        CarbonMinistry y = of(AB + times(A_TO_B, 12));
        due("twelve", y.cutting(0, 1), 12);
        due("none the other way", y.cutting(1, 0), 0);
        y.pull(0, 0);
        due("eleven IN", y.cutting(0, 1), 11);
        y.turn(1, 1);
        due("ten that lead there", y.cutting(0, 1), 10);
        due("one the other way", y.cutting(1, 0), 1);
        due("has(4)", y.has(4), 11);
        CarbonMinistry z = of(lettered(8) + "carbon a to b sheets 1;carbon a to c sheets 1;carbon a to d sheets 1;"
            + "carbon b to e sheets 1;carbon c to e sheets 1;carbon d to e sheets 1;carbon e to f sheets 1;"
            + "carbon e to f sheets 1;carbon f to g sheets 1;carbon f to h sheets 1;carbon g to h sheets 1;");
        due("three to e", z.cutting(0, 4), 3);
        due("two to f", z.cutting(0, 5), 2);
        due("two to h", z.cutting(0, 7), 2);
        due("one to g", z.cutting(0, 6), 1);
        due("none to a", z.cutting(7, 0), 0);
        // A row found first that must be left again.
        CarbonMinistry w = of(lettered(6) + "carbon a to b sheets 1;carbon a to c sheets 1;carbon b to e sheets 1;"
            + "carbon b to d sheets 1;carbon c to d sheets 1;carbon d to f sheets 1;carbon e to f sheets 1;");
        due("two rows", w.cutting(0, 5), 2);
        CarbonMinistry v = of(lettered(4) + "carbon a to c sheets 1;carbon d to c sheets 1;carbon c to b sheets 1;"
            + "carbon b to d sheets 1;carbon c to a sheets 1;carbon a to b sheets 1;carbon a to b sheets 1;"
            + "carbon c to a sheets 1;carbon c to d sheets 1;carbon c to d sheets 1;carbon a to b sheets 1;");
        due("one way into c, one out of b", v.cutting(0, 3), 2);
        due("two out of c, and one to b", v.cutting(2, 3), 3);
        manyCuts();
        // Offices in which a row found first must be left again, and another one with it.
        allCuts("ad bd cb ad ba ac ce ae ce ea dc be");
        allCuts("ag ef bd ed fa ca ge eb cb ec ae gb");
        allCuts("ef db be ec ca db ad ab cb ed ba fa");
        allCuts("bd ca ec ce cb ac dc bc ad eb de ae");
        allCuts("da ed ab cb dc ec ca ec da ca ba bc");
    }

    /** Each CUT of an office whose CARBONS are told by the letters of their two OFFICERS. */
    private static void allCuts(String carbons) {
        StringBuilder text = new StringBuilder(lettered(8));
        int[] from = new int[12];
        int[] to = new int[12];
        String[] each = carbons.split(" ");
        for (int c = 0; c < 12; c++) {
            from[c] = each[c].charAt(0) - 'a';
            to[c] = each[c].charAt(1) - 'a';
            text.append("carbon ").append(each[c].charAt(0)).append(" to ").append(each[c].charAt(1)).append(" sheets 1;");
        }
        CarbonMinistry x = of(text.toString());
        for (int pair = 0; pair < 64; pair++) {
            int one = pair / 8;
            int other = pair % 8;
            due("cutting(" + one + ", " + other + ") of " + carbons, x.cutting(one, other),
                one == other ? NONE : cut(from, to, 0xfff, one, other));
        }
    }

    /** Offices drawn, twelve CARBONS among six or eight: each CUT against all that can be pulled. */
    private static void manyCuts() {
        Draws draws = new Draws(5);
        for (int office = 0; office < 60; office++) {
            int officers = 6 + office % 2 * 2;
            StringBuilder text = new StringBuilder(lettered(officers));
            int[] from = new int[12];
            int[] to = new int[12];
            for (int c = 0; c < 12; c++) {
                from[c] = draws.next(officers);
                to[c] = (from[c] + 1 + draws.next(officers - 1)) % officers;
                text.append("carbon ").append((char) ('a' + from[c])).append(" to ").append((char) ('a' + to[c])).append(" sheets 1;");
            }
            CarbonMinistry x = of(text.toString());
            int turned = draws.next(13);
            int pulled = draws.next(13);
            if (turned < 12) {
                x.turn(turned, 1);
                int first = from[turned];
                from[turned] = to[turned];
                to[turned] = first;
            }
            x.pull(pulled, 0);
            int in = pulled < 12 ? 0xfff ^ 1 << pulled : 0xfff;
            for (int one = 0; one < officers; one++) {
                int other = (one + 1 + office % (officers - 1)) % officers;
                due("cutting(" + one + ", " + other + ") of " + text, x.cutting(one, other), cut(from, to, in, one, other));
            }
        }
    }

    private static int cut(int[] from, int[] to, int in, int one, int other) {
        int fewest = 12;
        for (int pulled = 0; pulled < 4096; pulled++) {
            int many = Integer.bitCount(pulled);
            if ((pulled & ~in) == 0 && many < fewest && !leads(from, to, in & ~pulled, one, other)) {
                fewest = many;
            }
        }
        return fewest;
    }

    private static boolean leads(int[] from, int[] to, int in, int one, int other) {
        int seen = 1 << one;
        for (int step = 0; step < 8; step++) {
            for (int c = 0; c < 12; c++) {
                seen |= (in >> c & 1) == 1 && (seen >> from[c] & 1) == 1 ? 1 << to[c] : 0;
            }
        }
        return (seen >> other & 1) == 1;
    }

    private static void found() {
        sentence("Terms", "FOUND are rows of DAYS AHEAD (0 .. 30), an OFFICER, a strength (0 .. 99) of a told FEELING behind these");
        CarbonMinistry x = of(AB + "fades feel;");
        int[][] rows = {{0, 0, 1}, {0, 0, 99}, {30, 0, 1}, {30, 0, 99}, {30, 1, 42}, {15, 1, 7}};
        for (int[] row : rows) {
            due("discover", discover(x, row), 1);
            due("sources", x.sources(0, NONE), 1);
            due("the source", x.sources(0, 0), 100 * row[1] + row[2]);
        }
        due("by 0: b alone", discover(x, 30, 0, 0), 1);
        due("sources", x.sources(0, NONE), 99);
        due("the first", x.sources(0, 0), 101);
        refusedTape(1, "discover of 31 DAYS", CarbonMinistry::discover, NONE, 31, 0, 1);
        refusedTape(1, "discover of strength 100", CarbonMinistry::discover, NONE, 0, 0, 100);
        refusedTape(1, "discover of OFFICER 3 of 3", CarbonMinistry::discover, NONE, 0, 3, 1);
        refusedTape(1, "discover of 255 each", CarbonMinistry::discover, NONE, 255, 255, 255);
        // Behind so many DAYS and no others: one strength less a DAY.
        CarbonMinistry y = of(AB + "fades feel-1;");
        int[][] behind = {{0, 50, 50}, {1, 50, 51}, {29, 50, 79}, {30, 50, 80}, {30, 69, 99}};
        for (int[] row : behind) {
            discover(y, row[0], 0, row[1]);
            due("the source of " + row[1] + " behind " + row[0], y.sources(0, 0), row[2]);
        }
        discover(y, 30, 0, 70);
        due("sources of 70 behind 30", y.sources(0, NONE), 0);
    }

    private static void sources() {
        sentence("Terms", ": SOURCES of a FEELING are an OFFICER, a strength (1 .. 99) by which he alone felt it now (all others by 0, "
            + "other FEELINGS as they are), by which all is so");
        CarbonMinistry x = of(AB + "feeling k;" + A_TO_B + "felt j of a is 60;felt j of b is 70;felt k of b is 80;fades feel;");
        due("sources without rows", x.sources(0, NONE), 198);
        due("the least of a", x.sources(0, 0), 1);
        due("the greatest of a", x.sources(0, 98), 99);
        due("the least of b", x.sources(0, 99), 101);
        due("the greatest of b", x.sources(0, 197), 199);
        // All others by 0: that b feels it by 70 does not count.
        discover(x, 1, 1, 98, 0, 1, 0);
        due("sources", x.sources(0, NONE), 1);
        due("the source", x.sources(0, 0), 99);
        discover(x, 1, 1, 1, 0, 1, 0);
        due("the source", x.sources(0, 0), 2);
        discover(x, 1, 1, 0);
        due("sources", x.sources(0, NONE), 1);
        due("the source, of whom nothing comes", x.sources(0, 0), 1);
        // Of two rows both must be so.
        discover(x, 0, 0, 5, 1, 1, 4);
        due("both rows", x.sources(0, 0), 5);
        discover(x, 0, 0, 5, 1, 1, 5);
        due("one row not", x.sources(0, NONE), 0);
        discover(x, 1, 1, 4, 0, 0, 5);
        due("both rows, the later ahead", x.sources(0, 0), 5);
        due("feels", x.feels(1, 0), 70);

        sentence("Terms", ": rows of FOUND are of one FEELING, that of the question.");
        discover(x, 1, 1, 40, 0, 1, 0);
        for (int f = 0; f < 2; f++) {
            due("sources of " + f, x.sources(f, NONE), 1);
            due("the source of " + f, x.sources(f, 0), 41);
            due("tells of " + f, x.tells(f, 2), 1);
        }
        due("none of another", x.sources(2, NONE), NONE);
    }

    private static void telling() {
        sentence("Terms", "TELLING is the number of DAYS AHEAD (1 .. 30), the OFFICER, by whose strength of it then, whatever it is, "
            + "the most SOURCES left are fewest");
        // a or b, by any strength; what comes to c on the day after a told DAY tells one from another.
        int[][] gates = {{0, 1, 2, 2}, {1, 2, 2, 2}, {28, 29, 2, 2}, {29, 30, 2, 2}, {30, 1, 0, 99}};
        for (int[] row : gates) {
            CarbonMinistry x = of(lettered(3) + "feeling j;carbon a to c sheets 1;carbon b to c sheets 1;fades feel;"
                + "passes (strength-sheets)*max(0,min(1,day+1-" + row[0] + "));");
            discover(x, 0, 2, 0);
            due("sources", x.sources(0, NONE), 198);
            for (int what = 0; what < 3; what++) {
                due("tells(0, " + what + ") of DAY " + row[0], x.tells(0, what), row[what + 1]);
            }
        }
        // a, b or c by 10: the day after each tells one from two, on the second day g tells all three.
        CarbonMinistry three = of(lettered(7) + "feeling j;carbon a to d sheets 1;carbon b to d sheets 1;carbon c to d sheets 1;"
            + "carbon a to e sheets 2;carbon b to f sheets 2;carbon e to g sheets 1;carbon f to g sheets 3;");
        discover(three, 1, 3, 9);
        due("sources", three.sources(0, NONE), 3);
        due("the second DAY", three.tells(0, 0), 2);
        due("g", three.tells(0, 1), 6);
        due("one is left", three.tells(0, 2), 1);
        three.pull(6, 0);
        due("the first DAY", three.tells(0, 0), 1);
        due("e", three.tells(0, 1), 4);
        due("two are left", three.tells(0, 2), 2);
        // Whatever it is: 0 counts as any other strength.
        CarbonMinistry y = of(AB + "fades feel;");
        discover(y, 0, 1, 0);
        due("DAYS", y.tells(0, 0), 1);
        due("OFFICER", y.tells(0, 1), 0);
        due("left at the most", y.tells(0, 2), 1);
        discover(y, 0, 0, 0);
        due("OFFICER", y.tells(0, 1), 1);
        due("left at the most", y.tells(0, 2), 1);
        discover(y, 9, 1, 42);
        due("one alone", y.tells(0, 2), 1);
        due("OFFICER", y.tells(0, 1), 0);
        CarbonMinistry z = of(AB + "fades feel/50;");
        due("198, half of a by 0 or 1", z.tells(0, 2), 99 + 49);

        sentence("Terms", "; of like ones the first, DAY by DAY, OFFICER by OFFICER.");
        CarbonMinistry w = of(lettered(8) + "feeling j;fades feel;" + "carbon h to a sheets 1;carbon h to g sheets 1;");
        discover(w, 0, 0, 0, 0, 1, 0, 0, 2, 0, 0, 3, 0, 0, 4, 0, 0, 5, 0, 0, 6, 0);
        due("sources, all of h", w.sources(0, NONE), 99);
        due("the first DAY", w.tells(0, 0), 1);
        due("the first OFFICER", w.tells(0, 1), 0);
        w.pull(0, 0);
        due("the next OFFICER", w.tells(0, 1), 6);
        w.pull(1, 0);
        due("the last OFFICER", w.tells(0, 1), 7);
        due("left", w.tells(0, 2), 1);
        CarbonMinistry none = of(lettered(8) + "feeling j;");
        due("nothing tells: the first DAY", none.tells(0, 0), 1);
        due("the first OFFICER", none.tells(0, 1), 0);
        due("all are left", none.tells(0, 2), 792);
        // Of like ones the first DAY, by whichever OFFICER: b is told on DAY 0 whose strength it was, a on DAY 1.
        CarbonMinistry gated = of("officer a shape 1 press 0;officer b shape 0 press 0;officer c shape 9 press 0;"
            + "officer d shape 9 press 0;feeling j;carbon c to a sheets 1;carbon d to a sheets 1;carbon c to b sheets 1;"
            + "carbon d to b sheets 1;fades feel;passes (strength-1)*max(0,min(1,day+1-shape))*max(0,min(1,shape+1-day));");
        discover(gated, 0, 0, 0, 0, 1, 0);
        due("sources of c and d", gated.sources(0, NONE), 198);
        due("the first DAY", gated.tells(0, 0), 1);
        due("b", gated.tells(0, 1), 1);
        due("two are left", gated.tells(0, 2), 2);
        goTo(gated, 1);
        due("the first DAY", gated.tells(0, 0), 1);
        due("a", gated.tells(0, 1), 0);
        due("two are left", gated.tells(0, 2), 2);
        // A later DAY only if it tells more.
        CarbonMinistry later = of(AB + "fades feel-1;");
        discover(later, 0, 1, 0);
        due("the first DAY", later.tells(0, 0), 1);
        due("left", later.tells(0, 2), 1);
    }

    // ---- images

    private static void images() {
        sentence("Terms", "AN IMAGE: DAY (two bytes, the higher first)");
        CarbonMinistry x = of(AB + times(A_TO_B, 2) + "felt j of a is 60;");
        int[][] days = {{0, 0, 0}, {1, 0, 1}, {255, 0, 255}, {256, 1, 0}, {999, 3, 231}};
        for (int[] row : days) {
            due("on", on(x, sealed(row[1], row[2], 1, 0, 1, 0, 60, 0)), true);
            due("has(3)", x.has(3), row[0]);
            x.image();
            due("octet(0)", x.octet(0), row[1]);
            due("octet(1)", x.octet(1), row[2]);
        }
        refusedImage("DAY 1000", 3, 232, 1, 0, 1, 0, 1, 0, 60, 0, 0, 0, 0, 30);
        refusedImage("DAY 1024", 4, 0, 1, 0, 1, 0, 1, 0, 60, 0, 0, 0, 0, 30);
        refusedImage("DAY 65535", 255, 255, 1, 0, 1, 0, 1, 0, 60, 0, 0, 0, 0, 30);

        sentence("Terms", "; for each CARBON 1 if it is IN, else 0, 1 if it is TURNED, else 0");
        int[][] flags = {{1, 0, 1, 0}, {0, 0, 1, 0}, {1, 1, 0, 0}, {0, 1, 1, 1}, {1, 0, 0, 1}, {0, 1, 0, 1}};
        for (int[] row : flags) {
            due("on", on(x, sealed(0, 7, row[0], row[1], row[2], row[3], 60, 0)), true);
            due("image", x.image(), 9);
            for (int k = 0; k < 4; k++) {
                due("carbon", x.carbon(k / 2, 3 + k % 2), row[k]);
                due("octet(" + (2 + k) + ")", x.octet(2 + k), row[k]);
            }
        }
        refusedImage("a flag of 2", 0, 0, 2, 0, 1, 0, 1, 0, 60, 0, 0, 0, 0, 30);
        refusedImage("a flag of 2", 0, 0, 1, 0, 1, 0, 1, 2, 60, 0, 0, 0, 0, 30);
        refusedImage("a flag of 255", 0, 0, 1, 0, 1, 255, 1, 0, 60, 0, 0, 0, 0, 30);

        sentence("Terms", "; for each OFFICER his strength of each FEELING");
        CarbonMinistry y = of(lettered(3) + "feeling j;feeling k;felt j of a is 1;felt k of a is 2;felt j of b is 3;"
            + "felt k of b is 4;felt j of c is 98;felt k of c is 99;");
        due("image", y.image(), 2 + 6 + 1);
        int[] felt = {1, 2, 3, 4, 98, 99};
        for (int k = 0; k < 6; k++) {
            due("octet(" + (2 + k) + ")", y.octet(2 + k), felt[k]);
        }
        due("on", on(y, sealed(0, 0, 99, 0, 5, 6, 7, 8)), true);
        due("feels", y.feels(0, 0), 99);
        due("feels", y.feels(0, 1), 0);
        due("feels", y.feels(1, 0), 5);
        due("feels", y.feels(2, 1), 8);
        refusedImage("a strength of 100", 0, 0, 1, 0, 1, 0, 1, 0, 100, 0, 0, 0, 0, 30);
        refusedImage("a strength of 100", 0, 0, 1, 0, 1, 0, 1, 0, 60, 0, 0, 0, 0, 100);
        refusedImage("a strength of 255", 0, 0, 1, 0, 1, 0, 1, 0, 60, 0, 255, 0, 0, 30);

        sentence("Terms", "; last a byte: all ahead from 241 on, c = (3 c + it) mod 251.");
        CarbonMinistry z = of(OFFICE);
        due("image", z.image(), 15);
        int c = 241;
        for (int k = 0; k < 14; k++) {
            c = (3 * c + z.octet(k)) % 251;
        }
        due("octet(14)", z.octet(14), c);
        due("octet(14), by hand", z.octet(14), 143);
        due("of nothing", new CarbonMinistry().image(), 3);
        int[] fit = sealed(0, 0, 1, 0, 1, 0, 1, 0, 60, 0, 0, 0, 0, 30);
        due("on", on(z, fit), true);
        for (int other : new int[] {142, 144, 0, 250, 251, 255}) {
            int[] unfit = fit.clone();
            unfit[14] = other;
            refusedTape(5, "on with a last byte of " + other, w -> bit(w.on()), 0, unfit);
        }
        // 0 and 251 are not the same: an image whose last byte is 0 has no other.
        for (int day = 0; day < 256; day++) {
            int[] b = sealed(0, day);
            if (b[2] == 0 || b[2] == 250) {
                due("on with a last byte of " + b[2], on(new CarbonMinistry(), b), true);
                due("on with one more", on(new CarbonMinistry(), 0, day, b[2] + 1), false);
                due("on with 251 more", on(new CarbonMinistry(), 0, day, b[2] == 0 ? 251 : 249), false);
            }
        }
    }

    private static void refusedImage(String name, int... octets) {
        refusedTape(5, "on with " + name, x -> bit(x.on()), 0, sealed(octets));
    }
}
