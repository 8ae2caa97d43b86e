import java.util.ArrayList;
import java.util.Arrays;
import java.util.List;

/** The sentences of "Terms" on texts: I, a ministry, and IV, a question. At the last value inside, the first outside. */
final class EdgeText extends Desk {
    private static final String[] OWN_WORDS = {"officer", "shape", "press", "feeling", "carbon", "to", "sheets", "felt",
        "of", "is", "passes", "fades", "acts", "slip", "strength", "day", "feel", "number", "feels", "steps", "or", "and",
        "not", "all", "min", "max"};
    private static final String A = "officer a shape 1 press 1;";
    private static final String AB = "officer a shape 1 press 1;officer b shape 1 press 1;";
    private static final String ABJ = AB + "feeling j;";

    private EdgeText() {
    }

    static void run() {
        kindsOfStatement();
        carbonsAndFelt();
        lawsAndSlip();
        tests();
        sums();
        parts();
        meaningOfParts();
        reckoning();
        without();
        names();
        blanks();
        faultOne();
        placesOfWordsAndNumbers();
        faultTwo();
        faultThree();
        faultFour();
        faultFive();
        questions();
        questionParts();
        questionFaults();
        allIsNamed("I. A MINISTRY is a text", "II. Each");
        allIsNamed("IV. A QUESTION is a text", "AN IMAGE: DAY");
    }

    // ---- I, the statements

    private static void kindsOfStatement() {
        sentence("Terms", "I. A MINISTRY is a text: { STATEMENT ; } (60 at most)");
        for (int n : new int[] {0, 1, 2, 59, 60}) {
            due("ministry of " + n, read(new CarbonMinistry(), times("slip 1;", n)), n);
        }
        faulty(5, times("slip 1;", 60) + "@slip 1;");
        faulty(1, "slip 1@");
        faulty(1, "slip 1;@;");
        faulty(1, "@;slip 1;");

        sentence("Terms", "officer NAME shape N press N (0 .. 9 each");
        CarbonMinistry x = of("officer a shape 0 press 9;officer b shape 9 press 0;");
        due("officer(0, 0)", x.officer(0, 0), 0);
        due("officer(0, 1)", x.officer(0, 1), 9);
        due("officer(1, 0)", x.officer(1, 0), 9);
        due("officer(1, 1)", x.officer(1, 1), 0);
        faulty(2, "officer a shape @10 press 1;");
        faulty(2, "officer a shape 1 press @10;");
        faulty(2, "officer a shape @9999 press 1;");
        faulty(1, "officer a shape @-1 press 1;");
        faulty(1, "officer a @press 1 shape 1;");
        faulty(1, "officer a shape 1@;");

        sentence("Terms", "; 8 OFFICERS)");
        CarbonMinistry y = of(lettered(8));
        due("has(0)", y.has(0), 8);
        due("letter(0, 7, 0)", y.letter(0, 7, 0), 8);
        due("officer(7, 0)", y.officer(7, 0), 7);
        due("officer(8, 0)", y.officer(8, 0), NONE);
        due("has(0)", of(lettered(7)).has(0), 7);
        faulty(5, lettered(8) + "@officer i shape 1 press 1;");

        sentence("Terms", "feeling NAME (4 FEELINGS)");
        CarbonMinistry z = of("feeling j;feeling k;feeling l;feeling m;");
        due("has(1)", z.has(1), 4);
        due("letter(1, 3, 0)", z.letter(1, 3, 0), 13);
        due("letter(1, 4, 0)", z.letter(1, 4, 0), NONE);
        faulty(5, "feeling j;feeling k;feeling l;feeling m;@feeling n;");
        faulty(1, "feeling j @k;");
    }

    private static void carbonsAndFelt() {
        sentence("Terms", "carbon NAME to NAME sheets N (two unlike OFFICERS");
        CarbonMinistry x = of(AB + "carbon a to b sheets 1;carbon b to a sheets 1;");
        due("carbon(0, 0)", x.carbon(0, 0), 0);
        due("carbon(0, 1)", x.carbon(0, 1), 1);
        due("carbon(1, 0)", x.carbon(1, 0), 1);
        due("carbon(1, 1)", x.carbon(1, 1), 0);
        faulty(3, AB + "carbon a to @a sheets 1;");
        faulty(3, AB + "carbon b to @b sheets 1;");

        sentence("Terms", "1 .. 9; the next CARBON");
        CarbonMinistry y = of(AB + "carbon a to b sheets 1;carbon a to b sheets 9;carbon b to a sheets 5;");
        int[] sheets = {1, 9, 5};
        for (int c = 0; c < 3; c++) {
            due("carbon(" + c + ", 2)", y.carbon(c, 2), sheets[c]);
        }
        due("carbon(3, 2)", y.carbon(3, 2), NONE);
        faulty(2, AB + "carbon a to b sheets @0;");
        faulty(2, AB + "carbon a to b sheets @10;");

        sentence("Terms", "12 CARBONS, as many between two as one likes");
        String twelve = AB + times("carbon a to b sheets 1;", 12);
        CarbonMinistry z = of(twelve);
        due("has(2)", z.has(2), 12);
        due("officer(0, 3)", z.officer(0, 3), 12);
        due("officer(1, 2)", z.officer(1, 2), 12);
        due("carbon(11, 2)", z.carbon(11, 2), 1);
        due("carbon(12, 2)", z.carbon(12, 2), NONE);
        due("has(2)", of(AB + times("carbon b to a sheets 1;", 11)).has(2), 11);
        faulty(5, twelve + "@carbon a to b sheets 1;");
        faulty(5, twelve + "@carbon b to a sheets 1;");

        sentence("Terms", "felt NAME of NAME is N (a FEELING, an OFFICER, told once of these two; 1 .. 99)");
        CarbonMinistry w = of(ABJ + "feeling k;felt j of a is 1;felt j of b is 99;felt k of a is 2;felt k of b is 98;");
        due("feels(0, 0)", w.feels(0, 0), 1);
        due("feels(1, 0)", w.feels(1, 0), 99);
        due("feels(0, 1)", w.feels(0, 1), 2);
        due("feels(1, 1)", w.feels(1, 1), 98);
        faulty(2, ABJ + "felt j of a is @0;");
        faulty(2, ABJ + "felt j of a is @100;");
        faulty(3, ABJ + "felt j of a is 1;felt j of @a is 1;");
        faulty(3, ABJ + "felt j of a is 1;felt j of b is 2;felt j of @a is 3;");
        StringBuilder all = new StringBuilder(lettered(8) + "feeling w;feeling x;feeling y;feeling z;");
        for (int k = 0; k < 32; k++) {
            all.append("felt ").append((char) ('w' + k / 8)).append(" of ").append((char) ('a' + k % 8)).append(" is 99;");
        }
        due("has(6), all of 8 by 4", of(all.toString()).has(6), 32 * 99);
    }

    private static void lawsAndSlip() {
        sentence("Terms", "passes SUM, fades SUM, acts TEST (one each)");
        due("ministry", read(new CarbonMinistry(), "passes 1;fades 1;acts all;"), 3);
        faulty(5, "passes 1;@passes 1;");
        faulty(5, "fades 1;@fades 1;");
        faulty(5, "acts all;@acts all;");
        faulty(5, "passes 1;fades 1;acts all;@passes 1;");
        faulty(1, "passes 1@=1;");
        faulty(1, "fades @all;");
        faulty(1, "acts 1@;");

        sentence("Terms", "slip N (0 .. 100; the last one counts, 0 without)");
        String one = AB + "carbon a to b sheets 1;";
        due("slip 0", of(one + "slip 0;").chance(100), 0);
        due("slip 100", of(one + "slip 100;").chance(100), 100);
        due("the last one, 0", of(one + "slip 100;slip 0;").chance(100), 0);
        due("the last one, 100", of(one + "slip 0;slip 100;").chance(100), 100);
        due("without", of(one).chance(100), 0);
        faulty(2, "slip @101;");
        faulty(2, "slip @9999;");
        faulty(1, "slip @-1;");
        // What was told in another MINISTRY is gone.
        CarbonMinistry x = of(one + "slip 100;");
        read(x, one);
        due("without, behind one with", x.chance(100), 0);
    }

    // ---- I, TEST and SUM

    /** Whether a TEST of acts holds of an officer of shape 2, press 3, who feels FEELING 0 by 9 on DAY 0. */
    private static void holds(String test, boolean want) {
        String text = "officer a shape 2 press 3;feeling j;felt j of a is 9;fades feel;acts " + test + ";";
        due("acts " + test, of(text).days(1), want ? 1 : 0);
        due("ask often " + test.replace("feel=9", "2=2"), ask(of("officer a shape 2 press 3;"), "often "
            + test.replace("feel=9", "2=2")), want ? 1 : 0);
    }

    private static void tests() {
        sentence("Terms", "TEST: BOTH { or BOTH }. BOTH: FACT { and FACT }.");
        holds("1=1", true);
        holds("1=2", false);
        holds("1=2 or 1=1", true);
        holds("1=1 or 1=2", true);
        holds("1=2 or 1=2", false);
        holds("1=2 or 1=2 or 1=1", true);
        holds("1=1 and 1=1", true);
        holds("1=2 and 1=1", false);
        holds("1=1 and 1=2", false);
        holds("1=1 and 1=1 and 1=2", false);
        holds("1=1 or 1=1 and 1=2", true);
        holds("1=2 and 1=1 or 1=1", true);
        holds("1=2 and 1=2 or 1=2 and 1=1", false);
        faulty(1, "acts @or 1=1;");
        faulty(1, "acts 1=1 or@;");
        faulty(1, "acts 1=1 or @or 1=1;");
        faulty(1, "acts 1=1 and@;");
        faulty(1, "acts 1=1 and @or 1=1;");
        faulty(1, "acts 1=1 @1=1;");

        sentence("Terms", "FACT: not FACT; [ TEST ] ; all; SUM SIGN SUM, SIGN < or > or = .");
        holds("all", true);
        holds("not all", false);
        holds("not not all", true);
        holds("not 1=2", true);
        holds("not 1=2 and 1=2", false);
        holds("not 1=1 or 1=1", true);
        holds("not [1=1 or 1=1]", false);
        holds("[1=1 or 1=1] and 1=2", false);
        holds("[[feel=9]]", true);
        holds("2<3", true);
        holds("3<3", false);
        holds("4<3", false);
        holds("4>3", true);
        holds("3>3", false);
        holds("2>3", false);
        holds("3=3", true);
        holds("2=3", false);
        holds("4=3", false);
        holds("1+2=3", true);
        holds("3=2+1", true);
        faulty(1, "acts @;");
        faulty(1, "acts not@;");
        faulty(1, "acts [@];");
        faulty(1, "acts [1=1@;");
        faulty(1, "acts 1=1@];");
        faulty(1, "acts 1<2@<3;");
        faulty(1, "acts 1<@>3;");
        faulty(1, "acts 1=@all;");
        faulty(1, "acts 1=@not 1;");
        faulty(1, "acts 1=@[1=1];");
        faulty(1, "acts (1@=1);");
        faulty(1, "acts 1@!1;");
        faulty(1, "acts all@=1;");
    }

    private static long total(String sum) {
        return ask(of("officer a shape 2 press 3;"), "total " + sum);
    }

    /** What passes gives (0 .. 99) and what a question of it gives. */
    private static void gives(String sum, int want) {
        String text = AB + "feeling j;carbon a to b sheets 4;felt j of a is 8;passes " + sum + ";";
        due("passes " + sum, of(text).passes(0, 0), want);
        due("total " + sum, total(sum), want);
    }

    private static void sums() {
        sentence("Terms", "SUM: PRODUCT { + or - PRODUCT }. PRODUCT: PART { * or / PART }.");
        gives("7", 7);
        gives("7+2", 9);
        gives("7-2", 5);
        gives("7*2", 14);
        gives("7/2", 3);
        gives("1+2*3", 7);
        gives("2*3+1", 7);
        gives("9-6/2", 6);
        gives("(1+2)*3", 9);
        gives("2*3*4+5*6-7", 47);
        faulty(1, "passes @+1;");
        faulty(1, "passes @-1;");
        faulty(1, "passes 1+@;");
        faulty(1, "passes 1*@;");
        faulty(1, "passes 1-@-1;");
        faulty(1, "passes 1*@-1;");
        faulty(1, "passes 1@(2);");
        faulty(1, "passes 1 @2;");
    }

    private static void parts() {
        sentence("Terms", "PART: N (1 to 4 digits)");
        gives("0", 0);
        gives("9", 9);
        gives("0007", 7);
        gives("9999-9900", 99);
        faulty(1, "passes 0000@7;");
        faulty(1, "passes 9999@9;");
        faulty(1, "fades 1234@5;");
        faulty(1, "acts 1=1234@56789;");

        sentence("Terms", "; press; shape; day; ( SUM ) ; min ( SUM , SUM ) ; max ( SUM , SUM ) ; "
            + "in passes: strength; sheets; in fades, acts: feel; in acts: feeling.");
        partsOf("passes 1+", "press shape day strength sheets");
        partsOf("fades 1+", "press shape day feel");
        partsOf("acts 1=", "press shape day feel feeling");
        gives("min(7,5)", 5);
        gives("min(5,7)", 5);
        gives("max(7,5)", 7);
        gives("max(5,7)", 7);
        gives("min(max(1,9),max(3,4))", 4);
        gives("max(6,6)", 6);
        gives("((5))", 5);
        faulty(1, "passes (@);");
        faulty(1, "passes (1@;");
        faulty(1, "passes (1@,2);");
        faulty(1, "passes 1@);");
        faulty(1, "passes min(1@);");
        faulty(1, "passes min(1,2@,3);");
        faulty(1, "passes min(1,2@;");
        faulty(1, "passes min(@,2);");
        faulty(1, "passes max @1,2;");
        faulty(1, "passes max(1,@);");
        faulty(1, "passes @,1;");
    }

    /** Each own word is a PART there, or fault 1 at its first byte; min and max want a bracket behind them. */
    private static void partsOf(String start, String allowed) {
        String tail = start.startsWith("acts") ? "" : "+1";
        for (String word : OWN_WORDS) {
            if ((" " + allowed + " ").contains(" " + word + " ")) {
                due(start + word, read(new CarbonMinistry(), start + word + tail + ";"), 1);
            } else if (word.equals("min") || word.equals("max")) {
                faulty(1, start + word + "@;");
            } else {
                faulty(1, start + "@" + word + ";");
            }
        }
        faulty(1, start + "@x;");
        faulty(1, start + "@first;");
        faulty(1, start + "@presses;");
    }

    private static void meaningOfParts() {
        sentence("Terms", "(Of the OFFICER, in passes of the one to whom the CARBON leads, how he presses, his shape; the DAY; "
            + "how strongly it is felt by the one from whom it leads, how many sheets it has; how strongly he feels it; "
            + "the number of the FEELING.)");
        String two = "officer a shape 2 press 3;officer b shape 4 press 5;feeling i;feeling j;feeling k;feeling l;"
            + "carbon a to b sheets 9;felt j of a is 6;felt j of b is 8;felt l of a is 7;";
        long[] toB = {5, 4, 1, 6, 9};
        long[] toA = {3, 2, 1, 8, 9};
        String[] words = {"press", "shape", "day", "strength", "sheets"};
        for (int k = 0; k < 5; k++) {
            CarbonMinistry x = of(two + "fades feel;passes max(0,min(1,day))*" + words[k] + ";");
            due("passes on DAY 0, " + words[k], x.passes(0, 1), 0);
            x.days(1);
            due("passes to b, " + words[k], x.passes(0, 1), toB[k]);
            x.turn(0, 1);
            due("passes to a, " + words[k], x.passes(0, 1), toA[k]);
        }
        String[] ofFades = {"press", "shape", "day", "feel"};
        long[][] faded = {{3, 5}, {2, 4}, {0, 0}, {6, 8}};
        for (int k = 0; k < 4; k++) {
            CarbonMinistry x = of(two + "passes 0;fades " + ofFades[k] + ";");
            due("fades of a, " + ofFades[k], x.later(0, 1, 1), faded[k][0]);
            due("fades of b, " + ofFades[k], x.later(1, 1, 1), faded[k][1]);
        }
        CarbonMinistry y = of(two + "passes 0;fades day+1;");
        due("fades on DAY 0", y.later(0, 1, 1), 1);
        due("fades on DAY 1", y.later(0, 1, 2), 2);
        String[] acts = {"press=3", "press=5", "shape=2", "shape=4", "day=0", "day=1", "feel=6", "feel=8", "feeling=1",
            "feeling=3", "feeling=0", "feeling=4"};
        int[] acted = {2, 1, 2, 1, 3, 0, 1, 1, 2, 1, 0, 0};
        for (int k = 0; k < acts.length; k++) {
            due("acts " + acts[k], of(two + "passes 0;fades feel;acts " + acts[k] + ";").days(1), acted[k]);
        }
    }

    private static void reckoning() {
        sentence("Terms", "All from the left on");
        gives("10-3-2", 5);
        gives("10-3+2", 9);
        gives("100/7/2", 7);
        gives("7/2*2", 6);
        gives("2*7/2", 7);
        gives("8/(4/2)", 4);
        gives("10-(3-2)", 9);

        sentence("Terms", "/ gives the greatest whole number not above, by 0 it gives 0");
        due("6/3", total("6/3"), 2);
        due("7/3", total("7/3"), 2);
        due("8/3", total("8/3"), 2);
        due("9/3", total("9/3"), 3);
        due("2/3", total("2/3"), 0);
        due("(0-1)/3", total("(0-1)/3"), -1);
        due("(0-3)/3", total("(0-3)/3"), -1);
        due("(0-4)/3", total("(0-4)/3"), -2);
        due("1/(0-3)", total("1/(0-3)"), -1);
        due("6/(0-3)", total("6/(0-3)"), -2);
        due("7/(0-3)", total("7/(0-3)"), -3);
        due("(0-7)/(0-3)", total("(0-7)/(0-3)"), 2);
        due("(0-1)/9999", total("(0-1)/9999"), -1);
        due("5/0", total("5/0"), 0);
        due("0/0", total("0/0"), 0);
        due("(0-5)/0", total("(0-5)/0"), 0);
        due("5/(2-shape)", total("5/(2-shape)"), 0);
        due("5/0+4", total("5/0+4"), 4);
        gives("50+(0-7)/2", 46);
        gives("9+5/(1-1)", 9);

        sentence("Terms", "each sum, difference, product above 10 to the 6 is that, below -10 to the 6 likewise.");
        due("sum, 999999", total("9999*100+99"), 999999);
        due("sum, 1000000", total("9999*100+100"), 1000000);
        due("sum, 1000001", total("9999*100+101"), 1000000);
        due("sum, then one less", total("9999*100+101-1"), 999999);
        due("sum, -1000000", total("(0-9999*100)+(0-100)"), -1000000);
        due("sum, -1000001", total("(0-9999*100)+(0-101)"), -1000000);
        due("difference, -999999", total("0-9999*100-99"), -999999);
        due("difference, -1000000", total("0-9999*100-100"), -1000000);
        due("difference, -1000001", total("0-9999*100-101"), -1000000);
        due("difference, then one more", total("0-9999*100-101+1"), -999999);
        due("difference, 1000000", total("9999*100-(0-100)"), 1000000);
        due("difference, 1000001", total("9999*100-(0-101)"), 1000000);
        due("product, 1000000", total("1000*1000"), 1000000);
        due("product, 1001000", total("1001*1000"), 1000000);
        due("product, then one less", total("1001*1000-1"), 999999);
        due("product, -1000000", total("(0-1000)*1000"), -1000000);
        due("product, -1001000", total("1000*(0-1001)"), -1000000);
        due("product, then one more", total("1000*(0-1001)+1"), -999999);
        due("product of the greatest", total("1000*1000*(1000*1000)"), 1000000);
        due("product of the least", total("((0-1000)*1000)*((0-1000)*1000)"), 1000000);
        due("product of both", total("((0-1000)*1000)*(1000*1000)"), -1000000);
        due("quotient", total("(0-1000)*1000/(0-1)"), 1000000);
        gives("9999*9999-9999*100-1", 99);
        gives("9999*9999/9999-1", 99);
    }

    private static void without() {
        sentence("Terms", "Without: passes is strength-sheets, fades is 0, acts is feel>50.");
        String two = AB + "feeling j;carbon a to b sheets 9;";
        due("passes of 9 by 9", of(two + "felt j of a is 9;").passes(0, 0), 0);
        due("passes of 10 by 9", of(two + "felt j of a is 10;").passes(0, 0), 1);
        due("passes of 8 by 9", of(two + "felt j of a is 8;").passes(0, 0), 0);
        due("passes of 99 by 9", of(two + "felt j of a is 99;").passes(0, 0), 90);
        due("fades of 99", of(ABJ + "felt j of a is 99;").later(0, 0, 1), 0);
        due("acts of 50", of(ABJ + "felt j of a is 50;fades feel;").days(1), 0);
        due("acts of 51", of(ABJ + "felt j of a is 51;fades feel;").days(1), 1);
        // A MINISTRY without laws behind one that told them.
        CarbonMinistry x = of(two + "felt j of a is 60;passes 5;fades 7;acts all;");
        due("passes as told", x.passes(0, 0), 5);
        due("later as told", x.later(0, 0, 1), 7);
        due("acted as told", x.acted(1), 2);
        read(x, two + "felt j of a is 60;");
        due("passes", x.passes(0, 0), 51);
        due("later", x.later(0, 0, 1), 0);
        due("acted", x.acted(1), 1);
        due("acted, of 51", x.acted(2), 1);
    }

    // ---- I, names and blanks

    private static void names() {
        sentence("Terms", "NAMES: 1 to 6 letters");
        CarbonMinistry x = of("officer a shape 1 press 1;officer abcdef shape 1 press 1;feeling z;feeling uvwxyz;");
        due("letter(0, 0, 0)", x.letter(0, 0, 0), 1);
        due("letter(0, 0, 1)", x.letter(0, 0, 1), 0);
        due("letter(0, 1, 5)", x.letter(0, 1, 5), 6);
        due("letter(1, 0, 0)", x.letter(1, 0, 0), 26);
        due("letter(1, 1, 5)", x.letter(1, 1, 5), 26);
        faulty(1, "officer abcdef@g shape 1 press 1;");
        faulty(1, "feeling uvwxyz@z;");
        faulty(1, "officer  @");
        faulty(1, "feeling @;");
        for (char sign : new char[] {'a' - 1, 'z' + 1, 'A', 'Z', '0', '9', '_', '-', 0, 127, 128, 225, 255}) {
            faulty(1, "feeling @" + sign + ";");
            faulty(1, "feeling a@" + sign + ";");
        }

        sentence("Terms", ", no OWN WORD,");
        for (String word : new String[] {"first", "last", "often", "total", "most", "least", "t", "tos", "o", "off", "mi",
            "minn", "ma", "maxx", "alls", "al", "presse", "shap", "office", "a", "ors", "fee", "fel", "ac", "act"}) {
            due("a NAME " + word, read(new CarbonMinistry(), "officer " + word + " shape 1 press 1;"), 1);
            due("a NAME " + word, read(new CarbonMinistry(), "feeling " + word + ";"), 1);
        }

        sentence("Terms", "unlike ones (of both sorts)");
        due("unlike", read(new CarbonMinistry(), AB + "feeling c;feeling aa;feeling ab;feeling ba;"), 6);
        faulty(3, A + "officer @a shape 1 press 1;");
        faulty(3, A + "feeling @a;");
        faulty(3, "feeling a;feeling @a;");
        faulty(3, "feeling a;officer @a shape 1 press 1;");
        faulty(3, lettered(7) + "officer @g shape 1 press 1;");
        faulty(3, "feeling j;feeling k;feeling l;feeling @l;");

        sentence("Terms", "told ahead of where they are asked.");
        due("ahead", read(new CarbonMinistry(), ABJ + "carbon a to b sheets 1;felt j of b is 1;"), 5);
        faulty(3, A + "carbon a to @b sheets 1;officer b shape 1 press 1;");
        faulty(3, A + "carbon @b to a sheets 1;officer b shape 1 press 1;");
        faulty(3, A + "felt @j of a is 1;feeling j;");
        faulty(3, A + "feeling j;felt j of @b is 1;officer b shape 1 press 1;");

        sentence("Terms", "OWN WORDS, which no NAME is: officer, shape, press, feeling, carbon, to, sheets, felt, of, is, "
            + "passes, fades, acts, slip, strength, day, feel, number, feels, steps, or, and, not, all, min, max.");
        for (String word : OWN_WORDS) {
            faulty(1, "officer @" + word + " shape 1 press 1;");
            faulty(1, "feeling @" + word + ";");
            faulty(1, A + "carbon a to @" + word + " sheets 1;");
        }
    }

    private static void blanks() {
        sentence("Terms", "Blanks (10, 32) are where one likes");
        String[] tokens = ("officer a shape 1 press 2 ; officer b shape 3 press 4 ; feeling j ; carbon a to b sheets 5 ; "
            + "felt j of a is 60 ; passes min ( strength - 1 , 9 ) * ( 2 ) / 1 ; fades feel ; "
            + "acts [ feel > 50 or not all ] and all ; slip 7 ;").split(" ");
        for (String blank : new String[] {" ", "\n", "  ", "\n\n \n"}) {
            CarbonMinistry x = of(blank + String.join(blank, tokens) + blank);
            due("has(0)", x.has(0), 2);
            due("passes", x.passes(0, 0), 18);
            due("days", x.days(1), 1);
        }
        // A NAME is the same one behind whichever blank it is asked.
        for (String one : new String[] {" ", "\n", "\n ", " \n"}) {
            CarbonMinistry x = of("officer" + one + "a shape 1 press 2;officer \nb shape 3 press 4;feeling" + one + "j;"
                + "carbon a to\nb sheets 5;carbon\na to b sheets 6;felt j of" + one + "a is 60;felt\nj of b is 61;");
            due("has(2)", x.has(2), 2);
            due("has(6)", x.has(6), 121);
        }
        faulty(3, "officer\na shape 1 press 2;officer @a shape 1 press 2;");
        faulty(3, "officer a shape 1 press 2;feeling\n@a;");
        // None at all beside signs.
        CarbonMinistry y = of("officer a shape 1 press 2;officer b shape 3 press 4;feeling j;carbon a to b sheets 5;"
            + "felt j of a is 60;passes min(strength-1,9)*(2)/1;fades feel;acts[feel>50 or not[all]]and[all];slip 7;");
        due("passes", y.passes(0, 0), 18);
        due("days", y.days(1), 1);
        due("of blanks alone", read(y, " \n "), 0);
        due("ask", ask(of(A), "\n total\n1 +\n1 \n"), 2);
        for (int sign : new int[] {0, 8, 9, 11, 12, 13, 31, 33, 95, 133, 160, 255}) {
            faulty(1, "@" + (char) sign + "slip 1;");
            faulty(1, "slip@" + (char) sign + "1;");
            faulty(1, "slip 1;@" + (char) sign);
        }
        faulty(1, "@sl ip 1;");
        faulty(1, "slip 1 @0;");
        faulty(1, "officer a @b shape 1 press 1;");

        sentence("Terms", "(words and numbers side by side need one).");
        faulty(1, "slip@1;");
        faulty(1, "officer a shape 1@press 1;");
        faulty(1, "officer a shape@1 press 1;");
        faulty(1, "officer a@1 shape 1 press 1;");
        faulty(1, ABJ + "felt j of a is@9;");
        faulty(1, "passes@1;");
        faulty(1, "acts 1=1@or all;");
        faulty(1, "acts 1=1 or@1=1;");
        faulty(1, "acts @notall;");
        faulty(1, "@officera shape 1 press 1;");
        puzzled(1, "total@1");
        puzzled(1, "total feels@0");
        puzzled(1, "often 1=1@or all");
        due("slip 1", read(new CarbonMinistry(), "slip\n1;"), 1);
        due("beside signs none", ask(of(A), "often[1=1]and not[all]or all"), 1);
    }

    // ---- I, faults

    private static void faultOne() {
        sentence("Terms", "FAULTS, the first along the text");
        faulty(2, "officer a shape @10 press x;");
        faulty(1, "officer a shape @x press 10;");
        faulty(3, A + "officer @a shape 10;");
        faulty(2, "slip @101;x;");
        faulty(3, "feeling a;feeling @a;slip 101;");
        faulty(5, "passes 1;@passes ((((((((;");
        faulty(4, "passes ((((((@(x;");
        faulty(1, "passes ((((((@x(;");
        faulty(2, "slip @101press");
        faulty(5, lettered(8) + "@officer a shape 10;");
        faulty(3, A + "carbon @b to b sheets 0;");

        sentence("Terms", "1 the first byte with which no such text goes on (words and numbers whole, at their first byte");
        faulty(1, "@x;");
        faulty(1, "@offic");
        faulty(1, "@offic a shape 1 press 1;");
        faulty(1, "@officers a shape 1 press 1;");
        faulty(1, "@first all;");
        faulty(1, "@to a;");
        faulty(1, "@7;");
        faulty(1, "@12345;");
        faulty(1, "officer a @12345 1 press 1;");
        faulty(1, "officer a @shapes 1 press 1;");
        faulty(1, "officer a shape 1 @pres 1;");
        faulty(1, "officer a shape 1 press 1 @officer b");
        faulty(1, "officer a shape 1 press 1 @22222;");
        faulty(1, "slip @sliplong;");
        faulty(1, "passes 1 @abcdefghij;");
        faulty(1, "slip 1@!");
        faulty(1, "slip 1@:;");
        faulty(1, "slip 1@/;");
        faulty(1, "slip @:;");
        faulty(1, "slip @;");
        faulty(1, "officer a shape 1 press @;");
        faulty(1, "officer a shape @press 1;");
        faulty(1, "officer @;");
        faulty(1, "feeling @;");
        faulty(1, AB + "carbon a to b sheets @;");
        faulty(1, AB + "carbon a to b @;");
        faulty(1, AB + "carbon a to @;");
        faulty(1, AB + "carbon @;");
        faulty(1, ABJ + "felt j of a is @;");
        faulty(1, ABJ + "felt j of @;");
        faulty(1, "passes @;");
        faulty(1, "fades @;");
        faulty(1, "acts @;");
        faulty(1, "slip 1@\u00ff;");
        eachWordByAnother();
        eachPartByAnother();
    }

    private static final String[] SIGNS = {";", ",", "(", ")", "[", "]", "<", ">", "=", "+", "-", "*", "/", "!", ".", ":", "A",
        "\t", "\r", "\u0000", "\u00ff"};

    private static List<String> anything() {
        List<String> all = new ArrayList<>(Arrays.asList(OWN_WORDS));
        all.addAll(Arrays.asList(SIGNS));
        all.addAll(Arrays.asList("a", "b", "j", "zz", "first", "7"));
        return all;
    }

    /** Each word, NAME, number, sign of the statements made another: the fault is there, whatever comes behind it. */
    private static void eachWordByAnother() {
        String[] tokens = ("officer a shape 1 press 2 ; officer b shape 3 press 4 ; feeling j ; carbon a to b sheets 5 ; "
            + "felt j of a is 60 ; slip 7 ;").split(" ");
        // s starts a statement, n is a NAME to be given, o and f are those of an OFFICER, a FEELING, # a number, w the rest.
        String kinds = "snw#w#w" + "snw#w#w" + "snw" + "sowow#w" + "sfwow#w" + "s#w";
        due("kinds", kinds.length(), tokens.length);
        for (int k = 0; k < tokens.length; k++) {
            for (String other : anything()) {
                int kind = faultOf(kinds.charAt(k), tokens, k, other);
                if (kind > 0) {
                    faulty(kind, join(tokens, k, other));
                }
            }
        }
    }

    /** The tokens with another one, marked, in the place of one of them. */
    private static String join(String[] tokens, int k, String other) {
        StringBuilder b = new StringBuilder();
        for (int i = 0; i < tokens.length; i++) {
            b.append(i == k ? "@" + other : tokens[i]).append(' ');
        }
        return b.toString();
    }

    /** The fault of another word in the place of the k-th; 0 if it may stand there (a fault comes later, or none). */
    private static int faultOf(char kind, String[] tokens, int k, String other) {
        boolean isName = !Arrays.asList(OWN_WORDS).contains(other) && other.matches("[a-z]+");
        boolean isOfficer = told("officer", tokens, k).contains(other);
        boolean isFeeling = told("feeling", tokens, k).contains(other);
        switch (kind) {
            case 's': return other.matches("officer|feeling|carbon|felt|passes|fades|acts|slip") ? 0 : 1;
            case 'n': return !isName ? 1 : isOfficer || isFeeling ? 3 : 0;
            case 'o': return !isName ? 1 : isOfficer && !(tokens[k - 1] + tokens[k - 2]).equals("to" + other) ? 0 : 3;
            case 'f': return !isName ? 1 : isFeeling ? 0 : 3;
            case '#': return other.equals("7") ? 0 : 1;
            default: return other.equals(tokens[k]) ? 0 : 1;
        }
    }

    /** The NAMES given ahead of the k-th word to OFFICERS, or to FEELINGS. */
    private static List<String> told(String sort, String[] tokens, int k) {
        List<String> names = new ArrayList<>();
        for (int i = 0; i + 1 < k; i++) {
            if (tokens[i].equals(sort)) {
                names.add(tokens[i + 1]);
            }
        }
        return names;
    }

    private static final String START = " 7 press shape day ( min max ";

    /** Each word and sign of a law or a question made another; behind its colon stands what else may be there. */
    private static void eachPartByAnother() {
        String sum = START + "strength sheets ";
        eachPart(false, "passes", "min:" + sum, "(:(", "strength:" + sum, "-:,", "1:" + sum, ",:,", "9:" + sum, "):)", "*:;",
            "(:" + sum, "2:" + sum, "):)", ";:;");
        sum = START + "feel ";
        eachPart(false, "fades", "(:" + sum, "feel:" + sum, "):)", "/:;", "2:" + sum, ";:;");
        sum = START + "feel feeling ";
        String test = sum + "not [ all ";
        eachPart(false, "acts", "[:" + test, "not:" + test, "feel:" + test, "+:< > =", "feeling:" + sum, ">:< > =", "50:" + sum,
            "or:or and ]", "not:" + test, "all:" + test, "]:; or and ]", "and:; or and", "all:" + test, ";:; or and");
        sum = START + "number feels steps ";
        test = sum + "not [ all ";
        eachPart(true, "first", "not:" + test, "feels:" + test, "(:" + sum, "number:" + sum, "+:)", "1:" + sum, "):)", "<:< > =",
            "steps:" + sum, "min:" + sum, "(:(", "shape:" + sum, ",:,", "2:" + sum, "):)", "and:or and", "[:" + test,
            "all:" + test, "or:or and ]", "press:" + test, "=:< > =", "day:" + sum, "]:or and ]");
        eachPart(true, "total", "1:" + sum, "-:", "feels:" + sum, "1:" + sum, "*:", "steps:" + sum, "number:" + sum);
    }

    private static void eachPart(boolean question, String first, String... rows) {
        String[] tokens = new String[rows.length];
        for (int k = 0; k < rows.length; k++) {
            tokens[k] = rows[k].substring(0, rows[k].indexOf(':'));
        }
        for (int k = 0; k < rows.length; k++) {
            String may = " " + rows[k].substring(tokens[k].length() + 1) + " ";
            boolean isPart = may.contains(" press ") || may.equals(" ( ");
            boolean isBehindFact = k > 0 && (tokens[k - 1].equals("all") || tokens[k - 1].equals("]"));
            may += isPart || isBehindFact ? "" : "+ - * / ";
            for (String other : anything()) {
                if (may.contains(" " + other + " ")) {
                    continue;
                }
                if (question) {
                    puzzled(1, first + " " + join(tokens, k, other));
                } else {
                    faulty(1, first + " " + join(tokens, k, other));
                }
            }
        }
    }

    private static void placesOfWordsAndNumbers() {
        sentence("Terms", "where a NAME is asked, an OWN WORD so, a 7th letter at itself");
        faulty(1, "officer @to shape 1 press 1;");
        faulty(1, "officer @officer shape 1 press 1;");
        faulty(1, "officer @strength shape 1 press 1;");
        faulty(1, "feeling @feeling;");
        faulty(1, A + "carbon @carbon to a sheets 1;");
        faulty(1, A + "felt @felt of a is 1;");
        faulty(1, "officer office@rs shape 1 press 1;");
        faulty(1, "feeling feelin@gs;");
        faulty(1, "feeling abcdef@ghijklmnop;");
        faulty(1, "feeling abcdef@g");
        faulty(1, A + "carbon abcdef@g to a sheets 1;");
        faulty(1, A + "carbon a to abcdef@g sheets 1;");
        faulty(1, A + "felt abcdef@g of a is 1;");
        faulty(1, A + "feeling j;felt j of abcdef@g is 1;");
        faulty(3, A + "carbon @abcdef to a sheets 1;");

        sentence("Terms", "where a number is asked, a 5th digit at itself");
        faulty(1, "officer a shape 0000@0 press 1;");
        faulty(1, "officer a shape 1 press 0000@0;");
        faulty(1, AB + "carbon a to b sheets 0000@1;");
        faulty(1, ABJ + "felt j of a is 0000@1;");
        faulty(1, "slip 0000@1;");
        faulty(1, "slip 1000@000000;");
        faulty(1, "passes 1234@5;");
        CarbonMinistry x = of("officer a shape 0009 press 0000;officer b shape 1 press 1;feeling j;"
            + "carbon a to b sheets 0009;felt j of a is 0099;slip 0100;");
        due("officer(0, 0)", x.officer(0, 0), 9);
        due("carbon(0, 2)", x.carbon(0, 2), 9);
        due("feels(0, 0)", x.feels(0, 0), 99);
        due("chance", x.chance(3), 3);

        sentence("Terms", "at the text's length, if it ends too soon)");
        String[] tokens = ("officer a shape 1 press 2 ; officer b shape 3 press 4 ; feeling j ; carbon a to b sheets 5 ; "
            + "felt j of a is 60 ; passes min ( strength - 1 , 9 ) * ( 2 ) ; fades feel / 2 ; "
            + "acts [ feel > 50 or not all ] and all ; slip 7 ;").split(" ");
        StringBuilder text = new StringBuilder();
        for (String token : tokens) {
            text.append(token);
            if (!token.equals(";")) {
                faulty(1, text + "@");
                faulty(1, text + " \n@");
            }
            text.append(' ');
        }
        String[] asked = {"", "first", "first 1", "first 1 =", "first not", "first [", "first [ all", "first all or",
            "first all and", "total", "total 1 +", "total 1 /", "total (", "total ( 1", "total min", "total min (",
            "total min ( 1", "total min ( 1 ,", "total min ( 1 , 2", "total feels", "total steps", "last", "often", "most",
            "least"};
        for (String question : asked) {
            puzzled(1, question + "@");
            puzzled(1, question + "  @");
        }
    }

    private static void faultTwo() {
        sentence("Terms", "2 a number that can't be, at it");
        faulty(2, "officer a shape @10 press 1;");
        faulty(2, "officer a shape @0010 press 1;");
        faulty(2, "officer a shape 1 press @10;");
        faulty(2, "officer a shape 1 press @10");
        faulty(2, AB + "carbon a to b sheets @0;");
        faulty(2, AB + "carbon a to b sheets @0000;");
        faulty(2, AB + "carbon a to b sheets @10;");
        faulty(2, ABJ + "felt j of a is @0;");
        faulty(2, ABJ + "felt j of a is @100;");
        faulty(2, "slip @101;");
        faulty(2, "slip   \n@0101;");
    }

    private static void faultThree() {
        sentence("Terms", "3 a NAME to be given that is there already");
        faulty(3, A + "officer @a shape 1 press 1;");
        faulty(3, A + "officer @a");
        faulty(3, A + "feeling @a;");
        faulty(3, "feeling abcdef;officer @abcdef shape 1 press 1;");
        due("one letter more", read(new CarbonMinistry(), "feeling abcde;feeling abcdef;feeling bcdef;"), 3);

        sentence("Terms", "one that is none of what is asked");
        faulty(3, AB + "carbon @c to b sheets 1;");
        faulty(3, AB + "carbon a to @c sheets 1;");
        faulty(3, ABJ + "carbon @j to b sheets 1;");
        faulty(3, ABJ + "carbon a to @j sheets 1;");
        faulty(3, ABJ + "felt @k of a is 1;");
        faulty(3, ABJ + "felt @a of a is 1;");
        faulty(3, ABJ + "felt j of @c is 1;");
        faulty(3, ABJ + "felt j of @j is 1;");
        faulty(3, "carbon @a");
        faulty(3, "felt @a");

        sentence("Terms", "a second OFFICER like the first");
        faulty(3, AB + "carbon a to @a");
        faulty(3, AB + "carbon b to @b sheets 0;");

        sentence("Terms", "an OFFICER of whom that FEELING is told already, at it");
        faulty(3, ABJ + "felt j of a is 5;felt j of @a");
        faulty(3, ABJ + "felt j of b is 1;felt j of @b is 0;");
        due("of another", read(new CarbonMinistry(), ABJ + "feeling k;felt j of a is 5;felt k of a is 5;felt j of b is 5;"), 7);
    }

    private static void faultFour() {
        sentence("Terms", "4 the 7th of ( [ not that is open at once (not until its FACT ends), at it");
        due("six (", of(AB + "feeling j;carbon a to b sheets 1;felt j of a is 1;passes ((((((7))))));").passes(0, 0), 7);
        faulty(4, "passes ((((((@(7)))))));");
        faulty(4, "fades ((((((@(7)))))));");
        faulty(4, "acts ((((((@(7)))))))=1;");
        faulty(4, "acts 1=((((((@(7)))))));");
        holds("[[[[[[all]]]]]]", true);
        faulty(4, "acts [[[[[[@[all]]]]]]];");
        holds("not not not not not not all", true);
        holds("not not not not not all", false);
        faulty(4, "acts not not not not not not @not all;");
        // min and max open a bracket, and it is the bracket that is one too many.
        due("six of min", read(new CarbonMinistry(), "passes min(min(min(min(min(min(1,2),2),2),2),2),2);"), 1);
        faulty(4, "passes min(min(min(min(min(min(min@(1,2),2),2),2),2),2),2);");
        faulty(4, "passes max(1,max(1,max(1,max(1,max(1,max(1,max @(1,2)))))));");
        faulty(4, "passes min(1,(((((@(2))))));");
        // All three sorts count together.
        holds("not [not [((1))=1]]", true);
        faulty(4, "acts not [ not [ not [ @[ all ] ] ] ];");
        faulty(4, "acts not [ not [ not [ @not all ] ] ];");
        faulty(4, "acts not [ not [ not [ @(1)=1 ] ] ];");
        faulty(4, "acts not not not not not not @(1)=1;");
        // What is shut again does not count.
        holds("[[[[[[all]]]]]] and [[[[[[all]]]]]]", true);
        holds("((((((1))))))=((((((1))))))", true);
        holds("((((((1))))))+((((((1))))))=2", true);
        // A not is shut where its FACT ends, not ahead of it.
        holds("not not not not not not all and not not not not not not all", true);
        holds("not 1=2 and ((((((1))))))=1", true);
        holds("not 1=2 or ((((((1))))))=1", true);
        holds("[not all] or ((((((1))))))=1", true);
        faulty(4, "acts not (((((@(1))))))=1;");
        faulty(4, "acts not 1=(((((@(1))))));");
        faulty(4, "acts not not not not not not 1=@(1);");
        faulty(4, "acts not [[[[[ all and @[ all ] ]]]]];");
        // Where it cannot stand, it is fault 1.
        faulty(1, "passes ((((((1@(;");
        faulty(1, "passes ((((((@[;");
        faulty(1, "acts [[[[[[ all @[;");
    }

    private static void faultFive() {
        sentence("Terms", "5 one too many of a kind (a second passes, fades, acts, too)");
        faulty(5, lettered(8) + "@officer i shape 1 press 1;");
        faulty(5, lettered(8) + " \n@officer");
        faulty(5, "feeling j;feeling k;feeling l;feeling m;@feeling j;");
        faulty(5, AB + times("carbon a to b sheets 1;", 12) + " @carbon x");
        faulty(5, "passes 1; @passes 1;");
        faulty(5, "fades 1; @fades 1;");
        faulty(5, "acts all; @acts all;");
        faulty(5, "passes 1;slip 1;fades 1;slip 1;@passes");
        due("many slips", read(new CarbonMinistry(), times("slip 1;", 14)), 14);

        sentence("Terms", ", a 61st STATEMENT (whatever stands there), at its first byte.");
        for (String last : new String[] {"slip 1;", ";", "x", "7", "\u00ff", "officer a shape 1 press 1;", "(", "slip"}) {
            faulty(5, times("slip 1;", 60) + "@" + last);
            faulty(5, times("slip 1;", 60) + " \n @" + last);
        }
        due("blanks behind the 60th", read(new CarbonMinistry(), times("slip 1;", 60) + " \n "), 60);
        faulty(1, times("slip 1;", 59) + "@x");
    }

    // ---- IV

    private static void questions() {
        CarbonMinistry eight = of(lettered(8));
        CarbonMinistry nobody = new CarbonMinistry();

        sentence("Terms", "IV. A QUESTION is a text, of all OFFICERS: first TEST, last TEST "
            + "(the first, the last OFFICER for whom it holds)");
        due("first all", ask(eight, "first all"), 0);
        due("last all", ask(eight, "last all"), 7);
        due("first shape>6", ask(eight, "first shape>6"), 7);
        due("first shape>7", ask(eight, "first shape>7"), NONE);
        due("last shape<1", ask(eight, "last shape<1"), 0);
        due("last shape<0", ask(eight, "last shape<0"), NONE);
        due("first shape>2 and shape<5", ask(eight, "first shape>2 and shape<5"), 3);
        due("last shape>2 and shape<5", ask(eight, "last shape>2 and shape<5"), 4);
        due("first of nobody", ask(nobody, "first all"), NONE);
        due("last of nobody", ask(nobody, "last all"), NONE);
        puzzled(1, "first 1@");
        puzzled(1, "last 1+@");

        sentence("Terms", "often TEST (for how many)");
        due("often all", ask(eight, "often all"), 8);
        due("often not all", ask(eight, "often not all"), 0);
        due("often press=9", ask(eight, "often press=9"), 1);
        due("often of nobody", ask(nobody, "often all"), 0);
        puzzled(1, "often 1@");

        sentence("Terms", "total SUM (of all together, not held)");
        due("total, above", ask(eight, "total 1000*1000"), 8000000);
        due("total, below", ask(eight, "total 0-1000*1000"), -8000000);
        due("total, each held", ask(eight, "total 9999*9999"), 8000000);
        due("total of both", ask(eight, "total shape-press"), 28 - 44);
        due("total of nobody", ask(nobody, "total 5"), 0);
        puzzled(1, "total 1@=1");
        puzzled(1, "total @all");

        sentence("Terms", "most SUM, least SUM (the greatest, the least of all; 0 without OFFICERS).");
        due("most shape", ask(eight, "most shape"), 7);
        due("least shape", ask(eight, "least shape"), 0);
        due("most press", ask(eight, "most press"), 9);
        due("least press", ask(eight, "least press"), 2);
        due("most, below 0", ask(eight, "most shape-9"), -2);
        due("least, above 0", ask(eight, "least shape+9"), 9);
        due("most, far below 0", ask(eight, "most 0-9999*9999"), -1000000);
        due("least, far above 0", ask(eight, "least 9999*9999"), 1000000);
        due("most of the midst", ask(eight, "most shape*press"), 20);
        due("least of the midst", ask(eight, "least 0-shape*press"), -20);
        due("most of nobody", ask(nobody, "most 5"), 0);
        due("least of nobody", ask(nobody, "least 5"), 0);
        due("most of nobody", ask(nobody, "most 0-5"), 0);
        puzzled(1, "most 1@>0");
        puzzled(1, "least @not all");
    }

    private static void questionParts() {
        sentence("Terms", "TEST, SUM as in I, but PART: N; number; press; shape; day; feels PART; steps PART; ( SUM ) ; "
            + "min ( SUM , SUM ) ; max ( SUM , SUM ) . (The OFFICER's number");
        String allowed = " number press shape day ";
        for (String word : OWN_WORDS) {
            if (allowed.contains(" " + word + " ")) {
                due("fault(0) of most " + word, faultOf("most " + word), 0);
            } else if (word.equals("feels") || word.equals("steps") || word.equals("min") || word.equals("max")) {
                puzzled(1, "most " + word + "@");
            } else {
                puzzled(1, "most @" + word);
            }
        }
        CarbonMinistry x = of(lettered(8) + "feeling j;felt j of h is 9;carbon a to h sheets 1;");
        due("total number", ask(x, "total number"), 28);
        due("most number", ask(x, "most number"), 7);
        due("least number", ask(x, "least number"), 0);
        due("first number=7", ask(x, "first number=7"), 7);
        due("total press", ask(x, "total press"), 44);
        due("total day", ask(x, "total day"), 0);
        x.days(3);
        due("total day", ask(x, "total day"), 24);
        due("feels of a sum", ask(x, "total feels(1-1)"), 0);
        x.put(7, 0, 9);
        due("feels of a sum", ask(x, "total feels(1-1)"), 9);
        due("feels binds the PART alone", ask(x, "total feels 0*2"), 18);
        due("steps of max", ask(x, "first steps max(7,1)=1"), 0);
        due("min", ask(x, "most min(number,3)"), 3);
        due("max", ask(x, "least max(number,3)"), 3);
        due("1 to 4 digits", ask(x, "most 9999"), 9999);
        puzzled(1, "most 9999@9");

        sentence("Terms", "; how strongly he feels the FEELING of that number, 0 of one that there is not");
        CarbonMinistry y = of("officer a shape 1 press 1;feeling j;feeling k;felt j of a is 1;felt k of a is 99;");
        due("feels 0", ask(y, "total feels 0"), 1);
        due("feels 1", ask(y, "total feels 1"), 99);
        due("feels 2", ask(y, "total feels 2"), 0);
        due("feels 3", ask(y, "total feels 3"), 0);
        due("feels 4", ask(y, "total feels 4"), 0);
        due("feels 9999", ask(y, "total feels 9999"), 0);
        due("feels -1", ask(y, "total feels(0-1)"), 0);
        due("feels far below", ask(y, "total feels(0-9999*9999)"), 0);
        CarbonMinistry z = of(A + "feeling j;feeling k;feeling l;feeling m;felt m of a is 5;");
        due("feels 3", ask(z, "total feels 3"), 5);
        due("feels 4", ask(z, "total feels 4"), 0);
        due("without feelings", ask(of(A), "total feels 0"), 0);

        sentence("Terms", "; STEPS from him to the OFFICER of that number, 0 to himself, -1 without, or to one that there is not.)");
        CarbonMinistry w = of(lettered(8) + "carbon a to b sheets 1;carbon b to c sheets 1;");
        due("steps 2", ask(w, "total steps 2"), 2 + 1 + 0 - 5);
        due("steps 2 of a", ask(w, "first steps 2=2"), 0);
        due("steps 2 of c", ask(w, "first steps 2=0"), 2);
        due("steps 7 of h", ask(w, "first steps 7=0"), 7);
        due("steps 0", ask(w, "total steps 0"), -7);
        due("steps 8", ask(w, "total steps 8"), -8);
        due("steps 9999", ask(w, "total steps 9999"), -8);
        due("steps -1", ask(w, "total steps(0-1)"), -8);
        due("steps to himself", ask(w, "total steps number"), 0);
        due("steps 2 of two", ask(of(AB + "carbon a to b sheets 1;"), "total steps 2"), -2);
        due("steps 1 of two", ask(of(AB + "carbon a to b sheets 1;"), "total steps 1"), 1);
    }

    private static long faultOf(String question) {
        CarbonMinistry x = busy();
        ask(x, question);
        return x.fault(0);
    }

    private static void questionFaults() {
        sentence("Terms", "Its FAULTS: 1 as in I (an unknown word at its first byte; what stands behind it, too)");
        puzzled(1, "@");
        puzzled(1, " \n@");
        puzzled(1, "@firsts all");
        puzzled(1, "@firs all");
        puzzled(1, "@officer");
        puzzled(1, "@all");
        puzzled(1, "@1");
        puzzled(1, "@12345");
        puzzled(1, "@(1)");
        puzzled(1, "total @mini");
        puzzled(1, "total @unknownword");
        puzzled(1, "total 1+@first");
        puzzled(1, "first all @unknownword");
        puzzled(1, "first all @7");
        puzzled(1, "first all@;");
        puzzled(1, "first all @all");
        puzzled(1, "total 1@)");
        puzzled(1, "total 1 @12345");
        puzzled(1, "total 1@\u0000");
        puzzled(1, "total 1@,1");
        puzzled(1, "first all@]");
        puzzled(1, "total 1234@5");
        puzzled(1, "total feels @-1");
        puzzled(1, "total feels @not 1");

        sentence("Terms", "; 4 the 7th of ( [ not feels steps that is open at once "
            + "(not until its FACT, feels, steps until its PART ends), at it.");
        due("six feels", faultOf("total feels feels feels feels feels feels 0"), 0);
        puzzled(4, "total feels feels feels feels feels feels @feels 0");
        due("six steps", faultOf("total steps steps steps steps steps steps 0"), 0);
        puzzled(4, "total steps steps steps steps steps steps @steps 0");
        due("six (", faultOf("total ((((((1))))))"), 0);
        puzzled(4, "total ((((((@(1)))))))");
        due("six [", faultOf("first [[[[[[all]]]]]]"), 0);
        puzzled(4, "first [[[[[[@[all]]]]]]]");
        due("six not", faultOf("first not not not not not not all"), 0);
        puzzled(4, "first not not not not not not @not all");
        due("six of all sorts", faultOf("first not [ feels steps ( min ( 1 , 2 ) ) = 0 ]"), 0);
        puzzled(4, "first not [ feels steps ( min ( @( 1 ) , 2 ) ) = 0 ]");
        puzzled(4, "first not [ feels steps ( min ( @feels 1 , 2 ) ) = 0 ]");
        puzzled(4, "first not [ feels steps ( min ( 1 , @steps 2 ) ) = 0 ]");
        puzzled(4, "total feels feels feels feels feels feels @(0)");
        puzzled(4, "total feels feels feels feels feels feels min@(0,1)");
        // feels and steps are shut where their PART ends.
        due("shut behind a PART", faultOf("total feels 0+feels 0*feels 0-feels 0/feels 0+feels 0+feels 0+steps 0"), 0);
        due("shut behind a bracket", faultOf("total feels(0)+feels(1)+((((((1))))))"), 0);
        due("shut behind the inner one", faultOf("total feels steps 0+((((((1))))))"), 0);
        due("not is shut behind its FACT", faultOf("first not feels 0=1 and ((((((1))))))=1"), 0);
        puzzled(4, "first not feels 0=(((((@(1))))))");
        puzzled(4, "total feels(((((@(1))))))");
    }
}
