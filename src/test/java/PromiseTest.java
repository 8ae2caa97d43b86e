/** Promise by promise: ordinary inputs, the edges that the document names, wrong inputs. Answers worked out by hand. */
public final class PromiseTest extends Desk {
    public static void main(String[] args) {
        promise1();
        promise2();
        promise3();
        promise4();
        promise5();
        promise6();
        promises7to9();
        promises10to12();
        promises13to16();
        promise17();
        promises18and19();
        promise20();
        promise21();
        promise22();
        promise23();
        promises24and25();
        promise26();
        promise27();
        promises28and29();
        promise30();
        promises31to33();
        promise34();
        laws();
        asMuchAsCanBe();
        finish();
    }

    private static void promise1() {
        promise(1);
        CarbonMinistry x = new CarbonMinistry();
        for (int k = 0; k < 10; k++) {
            due("has", x.has(k), 0);
        }
        for (int k = 0; k < 6; k++) {
            due("status", x.status(k), 0);
        }
        due("fault", x.fault(0), 0);
        due("fault", x.fault(1), NONE);
        due("octet", x.octet(0), NONE);
        due("settles", x.settles(), 0);
        due("strongest", x.strongest(0, 0), NONE);
        due("image", x.image(), 3);
        due("NONE", NONE, -1);
        due("NOTHING", CarbonMinistry.NOTHING, -1000000000000000L);
    }

    private static void promise2() {
        promise(2);
        CarbonMinistry x = new CarbonMinistry();
        for (int k = 1; k <= 80; k++) {
            due("feed", x.feed(k, -1, 0, 0, 0), 20 * k);
        }
        due("feed", x.feed(0, 0, 0, 0, 0), NONE);
        due("status", x.status(0), 1);
        due("end", x.end(1580), true);
        due("feed", x.feed(0, 0, 0, 0, 0), 1600);
        due("end", x.end(1581), true);
        due("feed", x.feed(0, 0, 0, 0, 0), NONE);
        due("status", x.status(0), 2);
        due("end", x.end(1581), true);
        // "total 1234+5" and blanks: of each number the highest byte first.
        CarbonMinistry y = of("officer a shape 1 press 1;");
        due("feed", y.feed(0x746f7461, 0x6c203132, 0x33342b35, 0x20202020, 0x20202020), 20);
        due("ask", y.ask(), 1239);
        // A byte above 127 stays one.
        due("feed", y.feed(0x746f7461, 0x6cff3132, 0, 0, 0), 20);
        due("ask", y.ask(), NOTHING);
        due("fault", y.fault(1), 5);
    }

    private static void promise3() {
        promise(3);
        CarbonMinistry x = new CarbonMinistry();
        due("end", x.end(0), true);
        due("end", x.end(1), false);
        due("end", x.end(-1), false);
        due("end", x.end(Integer.MIN_VALUE), false);
        due("end", x.end(Integer.MAX_VALUE), false);
        due("status", x.status(0), 4);
        due("feed", x.feed(0, 0, 0, 0, 0), 20);
        due("end", x.end(21), false);
        due("end", x.end(20), true);
        due("end", x.end(7), true);
        due("end", x.end(8), false);
        due("feed", x.feed(0, 0, 0, 0, 0), 27);
        due("status", x.status(0), 6);
    }

    private static void promise4() {
        promise(4);
        CarbonMinistry x = new CarbonMinistry();
        due("ministry", x.ministry(), 0);
        due("ministry", read(x, " \n \n"), 0);
        due("ministry", read(x, OFFICE), 14);
        due("end", x.end(1), false);
        due("has", x.has(0), 3);
        x.seed(7);
        x.days(2);
        x.turn(0, 1);
        x.pull(1, 0);
        x.put(0, 0, 99);
        put(x, 1, 2, 3);
        x.discover();
        due("ministry", read(x, OFFICE + "officer"), NONE);
        due("status", x.status(1), 1);
        due("day stays", x.has(3), 2);
        due("turned stays", x.has(5), 1);
        due("kept stays", x.has(7), x.acted(0) + 1);
        due("found stays", x.has(8), 1);
        due("acts stay", x.has(9), 4);
        due("tape goes", x.end(1), false);
        due("ministry", read(x, OFFICE), 14);
        due("day", x.has(3), 0);
        due("in", x.has(4), 3);
        due("turned", x.has(5), 0);
        due("felt", x.has(6), 90);
        due("kept", x.has(7), 0);
        due("found", x.has(8), 0);
        due("acts", x.has(9), 0);
        // From the seed 7 the first draw of 100 is 76, from 1 it would be 18.
        due("seed stays", x.chance(1), 0);
        due("sixty", read(x, times("slip 1;", 60) + " "), 60);
        due("without", read(x, ""), 0);
        due("officers", x.has(0), 0);
        due("blanks", read(x, "\nofficer\na\n shape 0 press\n9\n;feeling b;"), 2);
        due("ministry", read(x, "officer z shape 9 press 8;feeling y;passes 1;fades 2;slip 3;x"), NONE);
        due("all stays", x.letter(0, 0, 0), 1);
        due("all stays", x.officer(0, 1), 9);
        due("all stays", x.letter(1, 0, 0), 2);
        oneAfterAnother();
        fullTape();
    }

    /** Nothing of an earlier ministry is left. */
    private static void oneAfterAnother() {
        String two = "officer a shape 1 press 1;officer b shape 1 press 1;feeling j;carbon a to b sheets 2;felt j of a is 9;";
        CarbonMinistry x = of(two + "passes 70+day;fades feel;acts all;slip 100;");
        due("passes", x.passes(0, 0), 70);
        due("slips", x.chance(1), 1);
        x.sources(0, -1);
        for (int k = 0; k < 4; k++) {
            for (int i = 0; i < k; i++) {
                due("ministry", read(x, ""), 0);
            }
            due("ministry", read(x, two), 5);
            due("passes", x.passes(0, 0), 7);
            due("later", x.later(0, 0, 1), 0);
            due("acted", x.acted(3), 0);
            due("slips", x.chance(1), 0);
            due("sources", x.sources(0, -1), 198);
            due("ministry", read(x, "officer a shape 1 press 1;feeling j;"), 2);
            due("sources", x.sources(0, -1), 99);
        }
    }

    /** Texts as long as the tape, of as many parts as go in. */
    private static void fullTape() {
        CarbonMinistry x = new CarbonMinistry();
        for (int k = 0; k < 5; k++) {
            due("ministry", read(x, "passes 1" + times("+1", 795) + " ;"), 1);
        }
        CarbonMinistry y = of("officer a shape 1 press 1;");
        due("ask", ask(y, "total 1" + times("+1", 796) + " "), 797);
        due("ask", ask(y, "total 1" + times("+1", 796) + "+"), NOTHING);
        due("place", y.fault(1), 1600);
    }

    private static void promise5() {
        promise(5);
        CarbonMinistry x = new CarbonMinistry();
        due("fault", x.fault(2), NONE);
        due("fault", x.fault(-1), NONE);
        wordsAndNumbers();
        numbersThatCannotBe();
        namesAtFault();
        tooManyOpen();
        tooManyOfAKind();
        read(x, "x");
        due("fault", x.fault(0), 1);
        due("place", x.fault(1), 0);
        ask(x, "often all");
        due("fault", x.fault(0), 0);
        due("place", x.fault(1), NONE);
        ask(x, "often alls");
        due("fault", x.fault(0), 1);
        due("place", x.fault(1), 6);
        put(x, 1, 2);
        x.discover();
        x.on();
        due("fault", x.fault(0), 1);
        read(x, "");
        due("fault", x.fault(0), 0);
        due("place", x.fault(1), NONE);
    }

    private static void wordsAndNumbers() {
        String a = "officer a shape 1 press 1;";
        faulty(1, "@x;");
        faulty(1, "@;");
        faulty(1, a + "@;");
        faulty(1, "@7");
        faulty(1, "@Officer a");
        faulty(1, "@\tofficer a");
        faulty(1, "@\u00e9");
        faulty(1, "officer@");
        faulty(1, "officer  \n@");
        faulty(1, "@offic");
        faulty(1, "@officers a");
        faulty(1, "officer @1");
        faulty(1, "officer@1");
        faulty(1, "officer @to");
        faulty(1, "officer @feeling");
        faulty(1, "officer @strength");
        faulty(1, "officer abcdef@g");
        faulty(1, "officer office@rs");
        faulty(1, "officer a@B shape");
        faulty(1, "officer a @1");
        faulty(1, "officer a @press");
        faulty(1, "officer a shape@");
        faulty(1, "officer a shape @x");
        faulty(1, "officer a shape@1");
        faulty(1, "officer a shape 1234@5");
        faulty(1, "officer a shape 0000@0");
        faulty(1, "officer a shape 1@press 1;");
        faulty(1, "officer a shape 1 press 1@");
        faulty(1, "officer a shape 1 press 1 @2");
        faulty(1, "officer a shape 1 press 1 @officer b");
        faulty(1, "officer a shape 1 press 1@,");
        faulty(1, a + "officer b shape 1 press 1;carbon a @b");
        faulty(1, a + "officer b shape 1 press 1;carbon a to @sheets");
        faulty(1, a + "carbon abcdef@g to a");
        faulty(1, a + "feeling j;felt j @a");
        faulty(1, a + "feeling j;felt j of a is@");
        faulty(1, "passes @feel;");
        faulty(1, "passes @feeling;");
        faulty(1, "passes @number;");
        faulty(1, "passes @feels 0;");
        faulty(1, "fades @strength;");
        faulty(1, "fades @feeling;");
        faulty(1, "fades @sheets;");
        faulty(1, "acts @sheets=1;");
        faulty(1, "acts @steps 0=1;");
        faulty(1, "passes @all;");
        faulty(1, "passes 1@<2;");
        faulty(1, "passes @-1;");
        faulty(1, "passes 1+@;");
        faulty(1, "passes 1+@+1;");
        faulty(1, "passes 1 @1;");
        faulty(1, "passes 1234@5;");
        faulty(1, "passes@1;");
        faulty(1, "passes (1@;");
        faulty(1, "passes (1@,2);");
        faulty(1, "passes 1@);");
        faulty(1, "passes min @1;");
        faulty(1, "passes min(1@);");
        faulty(1, "passes min(1,2@,3);");
        faulty(1, "passes max(1,2@");
        faulty(1, "acts feel@;");
        faulty(1, "acts feel>1@<2;");
        faulty(1, "acts feel>@all;");
        faulty(1, "acts (feel@>1);");
        faulty(1, "acts [feel>1@;");
        faulty(1, "acts feel>1@];");
        faulty(1, "acts @];");
        faulty(1, "acts feel>1@and all;");
        faulty(1, "acts feel>1 @andall;");
        faulty(1, "acts feel>1 and @;");
        faulty(1, "acts feel>1 or @or all;");
        faulty(1, "acts not@;");
        faulty(1, "acts all @all;");
        faulty(1, "acts all@");
        faulty(1, "acts feel=@=1;");
        faulty(1, "slip@");
        faulty(1, "slip @x");
    }

    private static void numbersThatCannotBe() {
        String a = "officer a shape 1 press 1;";
        faulty(2, "officer a shape @10 press 1;");
        faulty(2, "officer a shape @0010 press 1;");
        faulty(2, "officer a shape @10press 1;");
        faulty(2, "officer a shape 1 press @10;");
        faulty(2, a + "officer b shape 1 press 1;carbon a to b sheets @0;");
        faulty(2, a + "officer b shape 1 press 1;carbon a to b sheets @10;");
        faulty(2, a + "feeling j;felt j of a is @0;");
        faulty(2, a + "feeling j;felt j of a is @100;");
        faulty(2, "slip @101;");
        faulty(2, "slip @9999;");
        of("slip 100;slip 0;officer a shape 0009 press 0000;");
        of(a + "officer b shape 1 press 1;carbon a to b sheets 1;carbon b to a sheets 9;feeling j;felt j of a is 99;");
    }

    private static void namesAtFault() {
        String a = "officer a shape 1 press 1;";
        faulty(3, a + "officer @a shape 1");
        faulty(3, a + "feeling @a;");
        faulty(3, "feeling a;feeling @a;");
        faulty(3, "feeling a;officer @a shape 1");
        faulty(3, a + "carbon @b to a");
        faulty(3, a + "carbon a to @b");
        faulty(3, a + "carbon a to @a sheets 1;");
        faulty(3, a + "feeling j;carbon @j to a");
        faulty(3, a + "feeling j;carbon a to @j");
        faulty(3, a + "felt @j of a");
        faulty(3, a + "feeling j;felt @a of a");
        faulty(3, a + "feeling j;felt j of @j");
        faulty(3, a + "feeling j;felt j of @b is 0");
        faulty(3, a + "feeling j;felt j of a is 5;felt j of @a is 0");
        faulty(3, "carbon @a to b sheets 1;officer a shape 1 press 1;");
        of("officer first shape 1 press 1;officer least shape 1 press 1;feeling total;feeling acta;felt acta of least is 1;");
        // Names that begin alike are unlike ones.
        of("officer a shape 1 press 1;officer aa shape 1 press 1;officer ab shape 1 press 1;feeling aaaaaa;");
    }

    private static void tooManyOpen() {
        faulty(4, "passes ((((((@(1)))))));");
        faulty(4, "passes min((((((@(");
        faulty(4, "passes min(1,(((((min@(");
        // The mark of min's bracket is the bracket.
        faulty(4, "passes ((((((min @(1,2)");
        faulty(4, "acts [[[[[[@[all");
        faulty(4, "acts not not not not not not @not all;");
        faulty(4, "acts not[not[not[@[");
        faulty(4, "acts not not not [[[@(1)=1");
        faulty(4, "acts not 1=(((((@(");
        faulty(4, "acts not not not not not 1=(@(1);");
        faulty(1, "passes ((((((1@;");
        of("passes ((((((1))))))+((((((1))))));");
        of("passes min((min((min(1,2)),3)),4)+max(((((1)))),1);");
        of("acts not not not not not not all and not not not not not not all;");
        of("acts [[[[[[all]]]]]] or not [not [not [all]]] and not [not [not [1=1]]];");
    }

    private static void tooManyOfAKind() {
        StringBuilder b = new StringBuilder();
        for (int k = 0; k < 8; k++) {
            b.append("officer ").append((char) ('a' + k)).append(" shape 1 press 1;");
        }
        String eight = b.toString();
        faulty(5, eight + " @officer to");
        faulty(1, eight + " @officers");
        String four = "feeling k;feeling l;feeling m;feeling n;";
        faulty(5, four + "@feeling");
        String twelve = eight + times("carbon a to b sheets 1;", 12);
        faulty(5, twelve + "@carbon x");
        faulty(5, "passes 1;@passes x");
        faulty(5, "fades 1;passes 1;acts all;@fades");
        faulty(5, "acts all;@acts");
        faulty(5, times("slip 1;", 60) + "\n@slip 1;");
        faulty(5, times("slip 1;", 60) + "@x");
        faulty(5, times("slip 1;", 60) + "@;");
        faulty(5, times("slip 1;", 60) + "@\u00ff");
        CarbonMinistry x = of(twelve + four);
        due("has", x.has(0), 8);
        due("has", x.has(1), 4);
        due("has", x.has(2), 12);
    }

    private static void promise6() {
        promise(6);
        CarbonMinistry x = of(OFFICE);
        int[] first = {3, 2, 3, 0, 3, 0, 90, 0, 0, 0};
        for (int k = 0; k < 10; k++) {
            due("has(" + k + ")", x.has(k), first[k]);
        }
        x.turn(1, 1);
        x.pull(1, 0);
        x.days(1);
        put(x, 0, 0, 0, 0, 0, 0);
        x.discover();
        int[] then = {3, 2, 3, 1, 2, 1, 20 + 32 + 12 + 10, 1, 2, 3};
        for (int k = 0; k < 10; k++) {
            due("has(" + k + ")", x.has(k), then[k]);
        }
        due("has", x.has(-1), NONE);
        due("has", x.has(10), NONE);
        due("has", x.has(Integer.MAX_VALUE), NONE);
    }

    private static void promises7to9() {
        promise(7);
        CarbonMinistry x = of("officer abcxyz shape 3 press 5;officer b shape 0 press 9;feeling z;carbon abcxyz to b sheets 4;");
        int[] letters = {1, 2, 3, 24, 25, 26};
        for (int k = 0; k < 6; k++) {
            due("letter", x.letter(0, 0, k), letters[k]);
            due("letter", x.letter(0, 1, k), k == 0 ? 2 : 0);
            due("letter", x.letter(1, 0, k), k == 0 ? 26 : 0);
        }
        due("letter", x.letter(0, 0, 6), NONE);
        due("letter", x.letter(0, 0, -1), NONE);
        due("letter", x.letter(0, 2, 0), NONE);
        due("letter", x.letter(0, -1, 0), NONE);
        due("letter", x.letter(1, 1, 0), NONE);
        due("letter", x.letter(2, 0, 0), NONE);
        due("letter", x.letter(-1, 0, 0), NONE);
        promise(8);
        CarbonMinistry y = of(OFFICE);
        int[][] traits = {{3, 5, 0, 2}, {1, 2, 1, 1}, {7, 0, 2, 0}};
        for (int o = 0; o < 3; o++) {
            for (int k = 0; k < 4; k++) {
                due("officer", y.officer(o, k), traits[o][k]);
            }
        }
        y.turn(0, 1);
        due("officer", y.officer(0, 2), 1);
        due("officer", y.officer(0, 3), 1);
        due("officer", y.officer(1, 2), 0);
        due("officer", y.officer(1, 3), 2);
        y.pull(2, 0);
        due("officer", y.officer(0, 3), 0);
        due("officer", y.officer(2, 2), 1);
        due("officer", y.officer(0, 4), NONE);
        due("officer", y.officer(0, -1), NONE);
        due("officer", y.officer(3, 0), NONE);
        due("officer", y.officer(-1, 0), NONE);
        promise(9);
        int[][] carbons = {{0, 1, 2, 1, 1}, {1, 2, 3, 1, 0}, {0, 2, 5, 0, 0}};
        for (int c = 0; c < 3; c++) {
            for (int k = 0; k < 5; k++) {
                due("carbon", y.carbon(c, k), carbons[c][k]);
            }
        }
        due("carbon", y.carbon(0, 5), NONE);
        due("carbon", y.carbon(0, -1), NONE);
        due("carbon", y.carbon(3, 0), NONE);
        due("carbon", y.carbon(-1, 0), NONE);
    }

    private static void promises10to12() {
        promise(10);
        CarbonMinistry x = of(OFFICE);
        due("feels", x.feels(0, 0), 60);
        due("feels", x.feels(0, 1), 0);
        due("feels", x.feels(2, 1), 30);
        due("feels", x.feels(3, 0), NONE);
        due("feels", x.feels(-1, 0), NONE);
        due("feels", x.feels(0, 2), NONE);
        due("feels", x.feels(0, -1), NONE);
        promise(11);
        due("passes", x.passes(0, 0), 60 / 2 + 2);
        due("passes", x.passes(1, 0), 0);
        due("passes", x.passes(2, 0), 60 / 5);
        due("passes", x.passes(2, 1), 0);
        x.turn(2, 1);
        due("turned: from lad to mini", x.passes(2, 1), 30 / 5 + 5);
        due("turned", x.passes(2, 0), 0);
        x.pull(0, 0);
        due("pulled", x.passes(0, 0), 0);
        due("passes", x.passes(3, 0), NONE);
        due("passes", x.passes(-1, 0), NONE);
        due("passes", x.passes(0, 2), NONE);
        due("passes", x.passes(0, -1), NONE);
        String two = "officer a shape 4 press 3;officer b shape 5 press 7;feeling j;carbon a to b sheets 9;felt j of a is 8;";
        due("below 0", of(two).passes(0, 0), 0);
        due("above 99", of(two + "passes 9999;").passes(0, 0), 99);
        due("of the one to whom it leads", of(two + "passes press*10+shape;").passes(0, 0), 75);
        CarbonMinistry y = of(two + "passes day*10+1;");
        due("day 0", y.passes(0, 0), 1);
        y.days(2);
        due("felt by 0", y.passes(0, 0), 0);
        y.put(0, 0, 1);
        due("day 2", y.passes(0, 0), 21);
        y.turn(0, 1);
        y.put(1, 0, 1);
        due("turned", y.passes(0, 0), 21);
        promise(12);
        CarbonMinistry z = of(two + "felt j of b is 60;fades feel-1;passes 2;acts feel>6;");
        due("days", z.days(2), 3);
        int[][] kept = {{0, 0, 0, 7}, {0, 1, 0, 61}, {1, 1, 0, 62}};
        for (int k = 0; k < 3; k++) {
            for (int what = 0; what < 4; what++) {
                due("kept(" + k + ", " + what + ")", z.kept(k, what), kept[k][what]);
            }
        }
        due("kept", z.kept(3, 0), NONE);
        due("kept", z.kept(-1, 0), NONE);
        due("kept", z.kept(0, 4), NONE);
        due("kept", z.kept(0, -1), NONE);
        lastFortyKept();
    }

    private static void lastFortyKept() {
        CarbonMinistry x = of("officer a shape 0 press 0;feeling j;felt j of a is 99;fades 99-day/10;acts all;");
        due("days", x.days(45), 45);
        due("has", x.has(7), 40);
        due("oldest", x.kept(0, 0), 5);
        due("latest", x.kept(39, 0), 44);
        due("strength", x.kept(39, 3), 95);
        due("kept", x.kept(40, 0), NONE);
        x.days(100);
        due("oldest", x.kept(0, 0), 105);
        x.undo();
        due("has", x.has(7), 40);
        due("oldest again", x.kept(0, 0), 5);
        x.undo();
        due("has", x.has(7), 0);
    }

    private static void promises13to16() {
        promise(13);
        CarbonMinistry x = of(OFFICE);
        int[][] joy = {{60, 0, 0}, {20, 32, 12}, {6, 22, 18}, {2, 12, 14}, {0, 7, 8}, {0, 2, 4}, {0, 0, 1}, {0, 0, 0}};
        for (int n = 0; n < joy.length; n++) {
            for (int o = 0; o < 3; o++) {
                due("later", x.later(o, 0, n), joy[n][o]);
            }
        }
        due("later", x.later(2, 1, 2), 3);
        due("later", x.later(0, 0, 60), 0);
        due("later", x.later(0, 0, 61), NONE);
        due("later", x.later(0, 0, -1), NONE);
        due("later", x.later(3, 0, 0), NONE);
        due("later", x.later(0, 2, 0), NONE);
        due("nothing passes", x.has(3), 0);
        promise(14);
        due("settles", x.settles(), 7);
        x.days(7);
        due("settles", x.settles(), 0);
        String one = "officer a shape 0 press 0;feeling j;felt j of a is ";
        due("59 days", of(one + "59;fades feel-1;").settles(), 59);
        due("60 days", of(one + "60;fades feel-1;").settles(), NONE);
        due("at once", of(one + "60;fades feel;").settles(), 0);
        due("by the day, 99 at most", of(one + "50;fades 50+day;").settles(), 0);
        due("by the day, 99 at most", of(one + "50;fades 51+day;").settles(), 49);
        promise(15);
        CarbonMinistry y = of(OFFICE);
        due("strongest", y.strongest(0, 0), 0);
        due("strongest", y.strongest(0, 1), 1);
        due("strongest", y.strongest(0, 3), 2);
        due("strongest", y.strongest(0, 7), NONE);
        due("strongest", y.strongest(1, 0), 2);
        due("strongest", y.strongest(2, 0), NONE);
        due("strongest", y.strongest(-1, 0), NONE);
        due("strongest", y.strongest(0, 61), NONE);
        due("strongest", y.strongest(0, -1), NONE);
        y.put(2, 0, 60);
        due("the first of like ones", y.strongest(0, 0), 0);
        y.put(2, 1, 0);
        y.put(1, 1, 1);
        due("by 1", y.strongest(1, 0), 1);
        promise(16);
        CarbonMinistry z = of(OFFICE);
        due("acted", z.acted(0), 0);
        due("acted", z.acted(1), 1);
        due("acted", z.acted(60), 1);
        due("acted", z.acted(61), NONE);
        due("acted", z.acted(-1), NONE);
        due("nothing is kept", z.has(7), 0);
        CarbonMinistry w = of("officer a shape 0 press 0;officer b shape 0 press 0;feeling j;feeling k;felt j of a is 5;"
            + "felt k of a is 5;felt k of b is 5;fades feel;acts day<3 and [feeling=1 or day=0];");
        due("acted", w.acted(60), 3 + 2 + 2);
        lastDays();
    }

    /** The edges at DAY 999. */
    private static void lastDays() {
        CarbonMinistry x = of(OFFICE);
        for (int k = 0; k < 9; k++) {
            x.days(100);
        }
        x.days(90);
        due("day", x.has(3), 990);
        promise(13);
        due("later", x.later(0, 0, 9), 0);
        due("later", x.later(0, 0, 10), NONE);
        promise(15);
        due("strongest", x.strongest(0, 10), NONE);
        promise(16);
        due("acted", x.acted(9), 0);
        due("acted", x.acted(10), NONE);
        promise(17);
        x.put(0, 0, 60);
        due("turning", x.turning(1, 0, 1, 9) >= 0, true);
        due("turning", x.turning(1, 0, 32, 1), 0);
        due("turning", x.turning(1, 0, 32, 10), NONE);
        promise(26);
        due("days", x.days(10), NONE);
        promise(27);
        due("chance", x.chance(10), NONE);
        due("chance", x.chance(1) >= 0, true);
        promise(26);
        due("days", x.days(8) >= 0, true);
        due("day", x.has(3), 999);
        due("days", x.days(1), NONE);
        promise(14);
        due("settles", x.settles(), NONE);
        promise(13);
        due("later", x.later(0, 1, 0), 0);
        promise(22);
        due("tells", x.tells(0, 0), NONE);
        promise(21);
        due("sources", x.sources(0, -1), 297);
        put(x, 1, 0, 0);
        due("discover", x.discover(), 1);
        due("sources beyond 999", x.sources(0, -1), 0);
        put(x, 0, 0, 0);
        due("discover", x.discover(), 1);
        due("sources now", x.sources(0, -1), 198);
        promise(28);
        due("undo", x.undo(), true);
        due("day", x.has(3), 991);
        promise(14);
        x.days(7);
        x.put(1, 1, 9);
        due("settles at 998", x.settles(), NONE);
        x.put(1, 1, 0);
        due("settles at 998", x.settles(), 0);
        promise(11);
        x.days(1);
        x.turn(0, 0);
        x.put(0, 0, 60);
        due("passes at 999", x.passes(0, 0), 32);
    }

    private static void promise17() {
        promise(17);
        CarbonMinistry x = of(OFFICE);
        due("turning", x.turning(0, 1, 5, 1), 4);
        due("turning", x.turning(0, 1, 11, 1), 4);
        due("turning", x.turning(0, 1, 12, 1), NONE);
        due("turning", x.turning(1, 1, 12, 1), 2);
        due("turning", x.turning(1, 1, 13, 1), NONE);
        due("turning", x.turning(1, 0, 32, 1), 0);
        due("turning", x.turning(0, 0, 60, 0), 0);
        due("turning", x.turning(0, 0, 61, 0), NONE);
        // lad's woe of 30 comes to mini as 11, which fades to 3, and by sec as 12 / 2 + 5, and once more as 10 / 5 + 5.
        due("turning", x.turning(0, 1, 21, 2), 7);
        due("turning", x.turning(0, 1, 22, 2), NONE);
        x.pull(2, 0);
        due("only those in", x.turning(0, 1, 11, 1), NONE);
        due("turning", x.turning(0, 1, 11, 2), 3);
        x.turn(0, 1);
        due("turned back or not", x.turning(0, 1, 11, 2), 2);
        due("turned back", x.turning(1, 0, 32, 1), 1);
        due("wrong", x.turning(0, 0, 0, 1), NONE);
        due("wrong", x.turning(0, 0, 100, 1), NONE);
        due("wrong", x.turning(0, 0, 1, 21), NONE);
        due("wrong", x.turning(0, 0, 1, -1), NONE);
        due("wrong", x.turning(3, 0, 1, 1), NONE);
        due("wrong", x.turning(0, 2, 1, 1), NONE);
        due("wrong", x.turning(-1, -1, 1, 1), NONE);
        due("nothing is turned", x.has(5), 1);
        // Of like ones the least bits: each of three carbons would do.
        CarbonMinistry y = of("officer a shape 0 press 0;officer b shape 0 press 0;feeling j;felt j of b is 50;"
            + times("carbon a to b sheets 1;", 3) + "carbon b to a sheets 9;");
        due("turning", y.turning(0, 0, 41, 1), 0);
        due("turning", y.turning(0, 0, 42, 1), 1);
        due("turning", y.turning(0, 0, 91, 1), 3);
        due("turning", y.turning(0, 0, 99, 1), 3);
        y.put(1, 0, 20);
        due("turning", y.turning(0, 0, 68, 1), 7);
        due("turning", y.turning(0, 0, 69, 1), NONE);
        due("as it comes in 20 days", y.turning(0, 0, 1, 20), NONE);
        CarbonMinistry z = of(lettered(2) + "feeling j;carbon a to b sheets 1;felt j of b is 7;fades feel;"
            + "passes strength*max(0,min(1,day-2));");
        due("day by day", z.turning(0, 0, 7, 3), NONE);
        due("day by day", z.turning(0, 0, 7, 4), 1);
        due("day by day", z.turning(0, 0, 8, 4), NONE);
        due("day by day", z.turning(0, 0, 14, 5), 1);
        z.days(2);
        due("from now on", z.turning(0, 0, 7, 1), NONE);
        due("from now on", z.turning(0, 0, 7, 2), 1);
    }

    private static void promises18and19() {
        promise(18);
        CarbonMinistry x = of(OFFICE + "officer far shape 0 press 0;carbon lad to far sheets 1;");
        due("steps", x.steps(0, 3), 2);
        due("steps", x.steps(1, 3), 2);
        due("steps", x.steps(3, 0), NONE);
        due("steps", x.steps(3, 3), 0);
        x.pull(2, 0);
        due("steps", x.steps(0, 3), 3);
        x.turn(1, 1);
        due("steps", x.steps(0, 3), NONE);
        due("steps", x.steps(2, 1), 1);
        due("steps", x.steps(4, 0), NONE);
        due("steps", x.steps(0, 4), NONE);
        due("steps", x.steps(-1, 0), NONE);
        due("steps", x.steps(0, -1), NONE);
        promise(19);
        CarbonMinistry y = of(OFFICE + "officer far shape 0 press 0;" + times("carbon lad to far sheets 1;", 3));
        due("cutting", y.cutting(0, 2), 2);
        due("cutting", y.cutting(0, 1), 1);
        due("cutting", y.cutting(0, 3), 2);
        due("cutting", y.cutting(2, 3), 3);
        due("cutting", y.cutting(3, 2), 0);
        y.turn(4, 1);
        due("cutting", y.cutting(2, 3), 2);
        due("cutting", y.cutting(3, 2), 1);
        y.pull(3, 0);
        due("cutting", y.cutting(0, 3), 1);
        due("cutting", y.cutting(1, 1), NONE);
        due("cutting", y.cutting(4, 0), NONE);
        due("cutting", y.cutting(0, 4), NONE);
        due("cutting", y.cutting(-1, 0), NONE);
        due("nothing is pulled", y.has(4), 5);
        // A row of carbons taken first by the short way must be taken apart again.
        CarbonMinistry z = of(lettered(6) + "carbon a to b sheets 1;carbon a to c sheets 1;carbon b to d sheets 1;"
            + "carbon c to d sheets 1;carbon b to e sheets 1;carbon d to f sheets 1;carbon e to f sheets 1;");
        due("cutting", z.cutting(0, 5), 2);
        z.pull(4, 0);
        due("cutting", z.cutting(0, 5), 1);
        CarbonMinistry w = of(lettered(4) + "carbon a to b sheets 1;carbon b to c sheets 1;carbon c to d sheets 1;"
            + "carbon b to d sheets 1;carbon a to c sheets 1;carbon a to c sheets 1;carbon b to d sheets 1;");
        due("cutting", w.cutting(0, 3), 2);
    }

    private static void promise20() {
        promise(20);
        CarbonMinistry x = of(OFFICE);
        due("discover", discover(x), NONE);
        due("discover", discover(x, 1), NONE);
        due("discover", discover(x, 1, 2), NONE);
        due("discover", discover(x, 30, 2, 99), 1);
        due("discover", discover(x, 0, 0, 0, 1, 1), NONE);
        due("discover", discover(x, 31, 0, 0), NONE);
        due("discover", discover(x, 0, 3, 0), NONE);
        due("discover", discover(x, 0, 0, 100), NONE);
        due("discover", discover(x, 0, 0, 0, 0, 255, 0), NONE);
        due("discover", discover(x, 0, 0, 0, 31, 0, 0), NONE);
        due("discover", discover(x, 0, 0, 0, 0, 0, 100), NONE);
        due("all stays", x.has(8), 1);
        due("discover", discover(x, new int[48]), 16);
        due("discover", discover(x, new int[51]), NONE);
        due("has", x.has(8), 16);
        due("discover", discover(x, 0, 0, 0, 0, 0, 0), 2);
        due("has", x.has(8), 2);
        due("the tape goes", x.end(1), false);
        due("status", x.status(1), 11);
        due("discover", discover(new CarbonMinistry(), 0, 0, 0), NONE);
        x.days(1);
        x.put(0, 0, 1);
        x.undo();
        due("acts leave it", x.has(8), 2);
    }

    private static void promise21() {
        promise(21);
        CarbonMinistry x = of(OFFICE);
        due("sources", x.sources(0, -1), 297);
        due("sources", x.sources(0, 0), 1);
        due("sources", x.sources(0, 98), 99);
        due("sources", x.sources(0, 99), 101);
        due("sources", x.sources(0, 296), 299);
        due("sources", x.sources(0, 297), NONE);
        due("sources", x.sources(0, -2), NONE);
        due("sources", x.sources(2, -1), NONE);
        due("sources", x.sources(-1, -1), NONE);
        // One day on lad feels 12: mini 60..64 (a fifth), sec 36..38 (a third), lad himself 36..38 (fades to a third).
        discover(x, 1, 2, 12);
        int[] due = {60, 61, 62, 63, 64, 136, 137, 138, 236, 237, 238};
        due("sources", x.sources(1, -1), due.length);
        for (int k = 0; k < due.length; k++) {
            due("sources", x.sources(1, k), due[k]);
        }
        x.turn(1, 1);
        due("as it leads now", x.sources(0, -1), 8);
        x.pull(2, 0);
        due("as it leads now", x.sources(0, -1), 3);
        x.undo();
        due("undone", x.sources(0, -1), 8);
        discover(x, 0, 0, 61, 1, 2, 12);
        due("now too", x.sources(0, -1), 1);
        due("now too", x.sources(0, 0), 61);
        discover(x, 0, 0, 61, 0, 0, 62);
        due("sources", x.sources(0, -1), 0);
        due("sources", x.sources(0, 0), NONE);
        due("sources", new CarbonMinistry().sources(0, -1), NONE);
        discover(x, 1, 2, 0);
        read(x, OFFICE);
        due("nothing is found", x.sources(0, -1), 297);
        // By day 1 sums differ: what is kept of one day must not stand for the next.
        CarbonMinistry y = of("officer a shape 0 press 0;feeling j;fades feel+day-1;");
        discover(y, 1, 0, 9);
        due("sources", y.sources(0, 0), 10);
        y.days(3);
        due("sources", y.sources(0, 0), 7);
    }

    private static void promise22() {
        promise(22);
        CarbonMinistry x = of(OFFICE);
        discover(x, 1, 2, 12, 1, 1, 32);
        due("tells", x.tells(0, 0), 1);
        due("tells", x.tells(0, 1), 0);
        due("tells", x.tells(0, 2), 2);
        due("tells", x.tells(0, 3), NONE);
        due("tells", x.tells(0, -1), NONE);
        due("tells", x.tells(2, 0), NONE);
        due("tells", x.tells(-1, 0), NONE);
        // mini by 60, 61 or 62: all fade to 20, sec feels 32, 32 or 33.
        discover(x, 1, 2, 12, 1, 0, 20);
        due("sources", x.sources(0, -1), 3);
        due("tells", x.tells(0, 1), 1);
        due("tells", x.tells(0, 2), 2);
        discover(x, 0, 0, 1, 0, 0, 2);
        due("without any", x.tells(0, 0), NONE);
        due("none such", new CarbonMinistry().tells(0, 0), NONE);
        // On day 0 all is lost in the 50 that comes through, and nobody tells more than anybody.
        CarbonMinistry y = of("officer a shape 0 press 0;officer b shape 0 press 0;officer c shape 0 press 0;feeling j;"
            + "carbon a to b sheets 1;carbon b to c sheets 1;passes strength*min(1,day)+50*(1-min(1,day));");
        discover(y, 0, 1, 0, 0, 2, 0);
        due("sources", y.sources(0, -1), 99);
        due("tells", y.tells(0, 0), 1);
        due("tells", y.tells(0, 1), 0);
        due("tells", y.tells(0, 2), 99);
        CarbonMinistry z = of("officer a shape 0 press 0;officer b shape 0 press 0;feeling j;carbon a to b sheets 1;"
            + "fades feel-(feel-1)*(1-min(1,day));passes strength-99*(1-min(1,day));");
        due("tells", z.tells(0, 0), 1);
        due("tells", z.tells(0, 2), 99);
        CarbonMinistry w = of("officer a shape 0 press 0;officer b shape 0 press 0;feeling j;fades feel*min(1,5-day);");
        due("tells", w.tells(0, 0), 1);
        due("tells", w.tells(0, 1), 0);
        due("tells", w.tells(0, 2), 99);
        w.days(5);
        due("tells", w.tells(0, 2), 198);
        tellingOnTheSecondDay();
        tellingOnTheLastDay();
    }

    /** a, b or c by 10: the day after each tells one from two, on the second day g tells all three. */
    private static void tellingOnTheSecondDay() {
        CarbonMinistry x = of(lettered(7) + "feeling j;carbon a to d sheets 1;carbon b to d sheets 1;carbon c to d sheets 1;"
            + "carbon a to e sheets 2;carbon b to f sheets 2;carbon e to g sheets 1;carbon f to g sheets 3;");
        discover(x, 1, 3, 9);
        due("sources", x.sources(0, -1), 3);
        due("sources", x.sources(0, 0), 10);
        due("sources", x.sources(0, 1), 110);
        due("sources", x.sources(0, 2), 210);
        due("tells", x.tells(0, 0), 2);
        due("tells", x.tells(0, 1), 6);
        due("tells", x.tells(0, 2), 1);
        x.pull(6, 0);
        due("tells", x.tells(0, 0), 1);
        due("tells", x.tells(0, 1), 4);
        due("tells", x.tells(0, 2), 2);
    }

    /** Only what comes to c on DAY 998 tells a from b; 30 DAYS AHEAD alone are looked at, none beyond 999. */
    private static void tellingOnTheLastDay() {
        CarbonMinistry x = of(lettered(3) + "feeling j;carbon a to c sheets 1;carbon b to c sheets 1;fades feel;"
            + "passes (strength-sheets)*max(0,min(1,day-997));");
        int[][] due = {{968, 1, 0, 99}, {969, 30, 2, 2}, {970, 29, 2, 2}, {998, 1, 2, 2}};
        for (int[] row : due) {
            goTo(x, row[0]);
            discover(x, 0, 2, 0);
            due("sources", x.sources(0, -1), 198);
            for (int k = 0; k < 3; k++) {
                due("tells at " + row[0], x.tells(0, k), row[k + 1]);
            }
        }
        goTo(x, 999);
        due("tells", x.tells(0, 0), NONE);
        CarbonMinistry y = of(lettered(3) + "feeling j;carbon a to c sheets 1;carbon b to c sheets 1;fades feel;"
            + "passes (strength-sheets)*max(0,min(1,day-998));");
        goTo(y, 980);
        discover(y, 0, 2, 0);
        due("DAY 999 does not pass", y.tells(0, 0), 1);
        due("DAY 999 does not pass", y.tells(0, 2), 99);
    }

    private static void promise23() {
        promise(23);
        CarbonMinistry x = of(OFFICE);
        due("put", x.put(1, 0, 5), true);
        due("feels", x.feels(1, 0), 5);
        due("feels", x.feels(0, 0), 60);
        due("put", x.put(1, 0, 5), false);
        due("put", x.put(1, 0, 0), true);
        due("put", x.put(1, 0, 99), true);
        due("put", x.put(1, 0, 100), false);
        due("put", x.put(1, 0, -1), false);
        due("put", x.put(3, 0, 1), false);
        due("put", x.put(-1, 0, 1), false);
        due("put", x.put(0, 2, 1), false);
        due("put", x.put(0, -1, 1), false);
        due("status", x.status(2), 7);
        due("has", x.has(9), 3);
        due("has", x.has(6), 60 + 30 + 99);
    }

    private static void promises24and25() {
        promise(24);
        CarbonMinistry x = of(OFFICE);
        due("turn", x.turn(0, 0), false);
        due("turn", x.turn(0, 1), true);
        due("turn", x.turn(0, 1), false);
        due("turn", x.turn(0, 0), true);
        due("turn", x.turn(0, 2), false);
        due("turn", x.turn(0, -1), false);
        due("turn", x.turn(3, 1), false);
        due("turn", x.turn(-1, 1), false);
        due("status", x.status(2), 6);
        due("has", x.has(9), 2);
        promise(25);
        due("pull", x.pull(2, 1), false);
        due("pull", x.pull(2, 0), true);
        due("in", x.carbon(2, 3), 0);
        due("pull", x.pull(2, 0), false);
        due("turned though pulled", x.turn(2, 1), true);
        due("pull", x.pull(2, 1), true);
        due("turned", x.carbon(2, 4), 1);
        due("pull", x.pull(2, 2), false);
        due("pull", x.pull(2, -1), false);
        due("pull", x.pull(3, 0), false);
        due("pull", x.pull(-1, 0), false);
        due("status", x.status(2), 12);
        due("has", x.has(9), 5);
    }

    private static void promise26() {
        promise(26);
        CarbonMinistry x = of(OFFICE);
        due("days", x.days(0), NONE);
        due("days", x.days(-1), NONE);
        due("days", x.days(101), NONE);
        due("status", x.status(3), 3);
        due("days", x.days(1), 1);
        due("feels", x.feels(0, 0), 20);
        due("feels", x.feels(1, 0), 32);
        due("feels", x.feels(2, 0), 12);
        due("feels", x.feels(2, 1), 10);
        due("kept day", x.kept(0, 0), 0);
        due("kept officer", x.kept(0, 1), 1);
        due("kept strength", x.kept(0, 3), 32);
        due("days", x.days(100), 0);
        due("has", x.has(3), 101);
        due("has", x.has(9), 2);
        String two = "officer a shape 0 press 0;officer b shape 0 press 0;feeling j;felt j of a is 99;felt j of b is 98;"
            + times("carbon a to b sheets 1;", 12);
        CarbonMinistry y = of(two + "fades 9999;");
        y.days(1);
        due("99 at most", y.feels(1, 0), 99);
        due("99 at most", y.feels(0, 0), 99);
        CarbonMinistry z = of(two + "fades 0-9999;passes 0-50;");
        due("days", z.days(1), 0);
        due("0 at least", z.feels(1, 0), 0);
        CarbonMinistry w = of("officer a shape 0 press 0;feeling j;fades 9;passes 9;acts all;");
        due("felt by 0 neither fades nor is acted on", w.days(5), 0);
        due("felt by 1 is acted on", of("officer a shape 0 press 0;feeling j;felt j of a is 9;fades 1;acts all;").days(5), 5);
        due("feels", w.feels(0, 0), 0);
    }

    private static void promise27() {
        promise(27);
        CarbonMinistry x = of(OFFICE);
        due("chance", x.chance(0), NONE);
        due("chance", x.chance(-5), NONE);
        due("chance", x.chance(101), NONE);
        due("status", x.status(3), 3);
        // The draws from seed 1 are 18 (of 3: 0), 26 (0), 16 (0), 68.
        due("chance", x.chance(3), 3);
        due("turned", x.carbon(0, 4), 1);
        due("feels", x.feels(0, 0), 13);
        due("feels", x.feels(1, 0), 4);
        due("feels", x.feels(2, 0), 7);
        due("feels", x.feels(2, 1), 1);
        due("one act", x.has(9), 1);
        due("chance", x.chance(1), 0);
        due("has", x.has(3), 4);
        CarbonMinistry y = of(OFFICE);
        y.pull(0, 0);
        due("pulled ones too", y.chance(1), 1);
        due("turned", y.carbon(0, 4), 1);
        due("in", y.carbon(0, 3), 0);
        due("one carbon", of(lettered(2) + "carbon a to b sheets 1;slip 100;").chance(5), 5);
        due("without carbons", of("slip 100;").chance(3), 0);
        due("18 is not below 18", of(OFFICE + "slip 18;").chance(1), 0);
        due("18 is below 19", of(OFFICE + "slip 19;").chance(1), 1);
        due("slip 0 without", of("officer a shape 0 press 0;officer b shape 0 press 0;carbon a to b sheets 1;").chance(100), 0);
        due("slip 100", of(OFFICE + "slip 100;").chance(100), 100);
        CarbonMinistry z = of(OFFICE + "slip 0;");
        z.turn(0, 1);
        z.turn(0, 0);
        due("what is acted on is kept", z.chance(1), 0);
        due("has", z.has(7), 1);
    }

    private static void promises28and29() {
        promise(28);
        CarbonMinistry x = of(OFFICE);
        due("undo", x.undo(), false);
        due("status", x.status(4), 1);
        x.put(0, 0, 7);
        x.turn(1, 1);
        x.pull(2, 0);
        x.days(5);
        due("undo", x.undo(), true);
        due("day", x.has(3), 0);
        due("in", x.has(4), 2);
        due("undo", x.undo(), true);
        due("in", x.has(4), 3);
        due("turned", x.has(5), 1);
        due("undo", x.undo(), true);
        due("turned", x.has(5), 0);
        due("feels", x.feels(0, 0), 7);
        due("undo", x.undo(), true);
        due("feels", x.feels(0, 0), 60);
        due("undo", x.undo(), false);
        due("status", x.status(4), 2);
        for (int k = 1; k <= 25; k++) {
            x.put(0, 0, k);
        }
        due("has", x.has(9), 20);
        for (int k = 0; k < 20; k++) {
            due("undo", x.undo(), true);
        }
        due("feels", x.feels(0, 0), 5);
        due("undo", x.undo(), false);
        x.days(1);
        due("undo", x.undo(), true);
        due("kept goes", x.has(7), 0);
        promise(29);
        CarbonMinistry y = of(OFFICE);
        due("chance", y.chance(3), 3);
        due("undo", y.undo(), true);
        due("turned", y.has(5), 0);
        due("the seed stays: 68 is next", y.chance(1), 0);
        due("seed", y.seed(-1), false);
        due("seed", y.seed(Integer.MIN_VALUE), false);
        due("status", y.status(5), 2);
        due("seed", y.seed(1), true);
        due("chance", y.chance(1), 1);
        // From 2147483647 the draws are 99, 12; from 0 they are 92, 21.
        due("seed", y.seed(Integer.MAX_VALUE), true);
        due("chance", y.chance(1), 0);
        due("chance", y.chance(1), 1);
        due("seed", y.seed(0), true);
        due("chance", y.chance(1), 0);
        due("chance", y.chance(1), 1);
        due("seed is no act", y.has(9), 6);
    }

    private static void promise30() {
        promise(30);
        CarbonMinistry x = of(OFFICE);
        due("ask", ask(x, "first press<5"), 1);
        due("ask", ask(x, "last press>1"), 1);
        due("ask", ask(x, " often press>1 "), 2);
        due("ask", ask(x, "first press>5"), NONE);
        due("ask", ask(x, "last press>5"), NONE);
        due("ask", ask(x, "often press>5"), 0);
        due("ask", ask(x, "total press"), 7);
        due("ask", ask(x, "most shape"), 7);
        due("ask", ask(x, "least shape-5"), -4);
        due("ask", ask(x, "most shape-9"), -2);
        due("ask", ask(x, "total 9999*9999"), 3000000);
        due("ask", ask(x, "total 0-9999*9999"), -3000000);
        due("ask", ask(x, "total number"), 3);
        due("ask", ask(x, "total feels 0"), 60);
        due("ask", ask(x, "total feels 1"), 30);
        due("ask", ask(x, "total feels 2"), 0);
        due("ask", ask(x, "total feels 4+feels 3"), 0);
        due("ask", ask(x, "total steps 7"), -3);
        due("ask", ask(x, "total steps 8"), -3);
        due("ask", ask(x, "least 5-number"), 3);
        due("ask", ask(x, "most 5-number"), 5);
        due("ask", ask(x, "least 5+number"), 5);
        due("ask", ask(x, "most 5+number"), 7);
        due("ask", ask(x, "total feels(0-1)"), 0);
        due("ask", ask(x, "total feels 9999"), 0);
        due("ask", ask(x, "first feels number=30"), NONE);
        due("ask", ask(x, "most feels(1-1)/7"), 8);
        due("ask", ask(x, "total steps 2"), 1 + 1 + 0);
        due("ask", ask(x, "total steps 0"), 0 - 1 - 1);
        due("ask", ask(x, "total steps 3"), -3);
        due("ask", ask(x, "total steps(0-1)"), -3);
        due("ask", ask(x, "total steps number"), 0);
        due("ask", ask(x, "total steps steps 2"), 1 + 0 - 1);
        x.days(3);
        due("ask", ask(x, "total day"), 9);
        due("tape goes", x.end(1), false);
        CarbonMinistry none = new CarbonMinistry();
        due("ask", ask(none, "first all"), NONE);
        due("ask", ask(none, "last all"), NONE);
        due("ask", ask(none, "often all"), 0);
        due("ask", ask(none, "total 1"), 0);
        due("ask", ask(none, "most 1"), 0);
        due("ask", ask(none, "least 1"), 0);
        puzzled(1, "@");
        puzzled(1, "  @");
        puzzled(1, "@every all");
        puzzled(1, "@firsts all");
        puzzled(1, "@all");
        puzzled(1, "first@");
        puzzled(1, "first number@");
        puzzled(1, "first all @x");
        puzzled(1, "first all @;");
        puzzled(1, "total 1 @2");
        puzzled(1, "total 1@=1");
        puzzled(1, "total@1");
        puzzled(1, "total 1234@5");
        puzzled(1, "total @feel");
        puzzled(1, "total @strength");
        puzzled(1, "total @feeling");
        puzzled(1, "total @mini");
        puzzled(1, "total feels@");
        puzzled(1, "total feels@0");
        puzzled(1, "total feels @+");
        puzzled(1, "total feels 1@)");
        puzzled(1, "first not not all or@");
        puzzled(4, "total feels feels feels feels feels feels @feels 0");
        puzzled(4, "total steps feels steps feels steps feels @steps 0");
        puzzled(4, "total feels ((((( @(0");
        puzzled(4, "first not [ not feels steps ( @(1))=1");
        due("feels are shut again", ask(x, "total feels 9+feels 9+feels 9+feels 9+feels 9+feels 9+feels 9+feels 9"), 0);
        // On day 3 they feel joy by 2, 12 and 14: of feeling 9 by 0, of that one by these, of these by 0, and so on.
        due("six", ask(x, "total feels feels feels feels feels feels 9"), 2 + 12 + 14);
    }

    private static void promises31to33() {
        promise(31);
        CarbonMinistry x = of(OFFICE);
        due("octet", x.octet(0), NONE);
        due("image", x.image(), 2 + 6 + 6 + 1);
        promise(32);
        int[] octets = {0, 0, 1, 0, 1, 0, 1, 0, 60, 0, 0, 0, 0, 30, 143};
        for (int k = 0; k < octets.length; k++) {
            due("octet", x.octet(k), octets[k]);
        }
        due("octet", x.octet(-1), NONE);
        due("octet", x.octet(octets.length), NONE);
        x.put(0, 0, 1);
        due("of the latest image", x.octet(8), 60);
        promise(33);
        int[] other = {3, 231, 1, 1, 0, 0, 0, 1, 99, 0, 0, 7, 0, 30, 91};
        x.days(2);
        put(x, 0, 0, 0);
        x.discover();
        put(x, other);
        due("on", x.on(), true);
        due("day", x.has(3), 999);
        due("in", x.has(4), 1);
        due("turned", x.has(5), 2);
        due("turned", x.carbon(2, 4), 1);
        due("feels", x.feels(0, 0), 99);
        due("feels", x.feels(1, 1), 7);
        due("feels", x.feels(2, 1), 30);
        due("kept", x.has(7), 0);
        due("found stays", x.has(8), 1);
        due("acts", x.has(9), 0);
        due("image", x.image(), 15);
        for (int k = 0; k < other.length; k++) {
            due("octet", x.octet(k), other[k]);
        }
        x.put(1, 1, 8);
        sourcesByAnImage();
        refuses(x, 2, 2);
        refuses(x, 7, 2);
        refuses(x, 8, 100);
        refuses(x, 13, 255);
        refuses(x, 1, 232);
        refuses(x, 0, 4);
        put(x, 3, 231, 1, 1, 0, 0, 0, 1, 99, 0, 0, 7, 0, 30, 92);
        due("another last byte", x.on(), false);
        put(x, 3, 231, 1, 1, 0, 0, 0, 1, 99, 0, 0, 7, 0, 30);
        due("one too few", x.on(), false);
        put(x, 3, 231, 1, 1, 0, 0, 0, 1, 99, 0, 0, 7, 0, 30, 91, 0);
        due("one too many", x.on(), false);
        due("tape goes", x.on(), false);
        due("status", x.status(5), 10);
        due("all stays", x.feels(1, 1), 8);
        due("all stays", x.has(9), 1);
    }

    private static void sourcesByAnImage() {
        CarbonMinistry x = of(OFFICE);
        discover(x, 1, 2, 12);
        due("sources", x.sources(0, -1), 11);
        // The carbon from sec to lad is turned.
        put(x, 0, 0, 1, 0, 1, 1, 1, 0, 60, 0, 0, 0, 0, 30, 178);
        due("on", x.on(), true);
        due("sources", x.sources(0, -1), 8);
    }

    /** An image with one octet made another, the last byte fitting, is none. */
    private static void refuses(CarbonMinistry x, int at, int octet) {
        int[] b = {3, 231, 1, 1, 0, 0, 0, 1, 99, 0, 0, 7, 0, 30, 0};
        b[at] = octet;
        int c = 241;
        for (int k = 0; k < 14; k++) {
            c = (3 * c + b[k]) % 251;
        }
        b[14] = c;
        put(x, b);
        due("octet " + at + " is " + octet, x.on(), false);
    }

    private static void promise34() {
        promise(34);
        CarbonMinistry x = of(OFFICE);
        x.end(-1);
        x.ministry();
        read(x, "x");
        x.discover();
        x.turn(0, 1);
        x.put(0, 0, 1);
        x.pull(0, 1);
        x.days(0);
        x.chance(0);
        x.undo();
        x.seed(-1);
        x.on();
        ask(x, "nonsense");
        int[] due = {1, 2, 3, 2, 1, 2, NONE};
        for (int k = 0; k < due.length; k++) {
            due("status(" + k + ")", x.status(k), due[k]);
        }
        due("status", x.status(-1), NONE);
    }

    private static long total(String sum) {
        return ask(of("officer a shape 2 press 3;"), "total " + sum);
    }

    private static boolean holds(String test) {
        return ask(of("officer a shape 2 press 3;"), "often " + test) == 1;
    }

    /** 8 officers, 4 feelings, 12 carbons, 16 rows: nothing is too small for them. */
    private static void asMuchAsCanBe() {
        promise(6);
        StringBuilder b = new StringBuilder(lettered(8) + "feeling w;feeling x;feeling y;feeling z;acts all;fades feel;");
        for (int k = 0; k < 12; k++) {
            int to = k < 7 ? k + 1 : (k + 3) % 8;
            b.append("carbon ").append((char) ('a' + k % 8)).append(" to ").append((char) ('a' + to)).append(" sheets 9;");
        }
        for (int k = 0; k < 32; k++) {
            b.append("felt ").append((char) ('w' + k / 8)).append(" of ").append((char) ('a' + k % 8)).append(" is 99;");
        }
        CarbonMinistry x = of(b.toString());
        due("statements", x.has(0) + x.has(1) + x.has(2), 24);
        due("strengths", x.has(6), 32 * 99);
        due("feels", x.feels(7, 3), 99);
        due("acted", x.acted(60), 60 * 32);
        due("days", x.days(2), 64);
        due("kept", x.kept(39, 1), 7);
        due("kept", x.kept(39, 2), 3);
        due("kept", x.kept(0, 1), 6);
        due("settles", x.settles(), 0);
        due("turned", x.turn(11, 1), true);
        due("turning", x.turning(7, 3, 99, 20), 0);
        x.put(7, 3, 0);
        due("turning", x.turning(7, 3, 99, 1) >= 0, true);
        due("turning", x.turning(7, 3, 99, 0), NONE);
        due("image", x.image(), 2 + 24 + 32 + 1);
        int[] octets = new int[59];
        for (int k = 0; k < 59; k++) {
            octets[k] = x.octet(k);
        }
        x.pull(11, 0);
        put(x, octets);
        due("on", x.on(), true);
        due("in", x.has(4), 12);
        due("turned", x.has(5), 1);
        due("sources", x.sources(3, -1), 792);
        due("sources", x.sources(3, 791), 799);
        due("tells", x.tells(3, 2) > 0, true);
        due("discover", discover(x, new int[48]), 16);
        due("sources", x.sources(0, -1), 7 * 99);
        due("often", ask(x, "often steps 0<0"), reaching(x));
        due("slip", x.chance(100), 0);
    }

    private static int reaching(CarbonMinistry x) {
        int without = 0;
        for (int k = 0; k < 8; k++) {
            without += x.steps(k, 0) == NONE ? 1 : 0;
        }
        return without;
    }

    private static void laws() {
        promise(30);
        due("from the left on", total("10-3-2"), 5);
        due("from the left on", total("100/7/2"), 7);
        due("from the left on", total("7/2*2"), 6);
        due("products first", total("1+2*3"), 7);
        due("brackets", total("(1+2)*3"), 9);
        due("not above", total("(0-7)/2"), -4);
        due("not above", total("7/(0-2)"), -4);
        due("not above", total("(0-8)/2"), -4);
        due("by 0", total("5/0"), 0);
        due("by 0", total("0/0"), 0);
        due("held above", total("9999*9999-9999*100"), 100);
        due("held below", total("0-9999*100-9999+100"), -999900);
        due("held below", total("(0-9999)*9999"), -1000000);
        due("held", total("9999*100+100"), 1000000);
        due("held", total("9999*100+101"), 1000000);
        due("min", total("min(3,2)+max(3,2)*10"), 32);
        due("least", total("min(0-5,press)"), -5);
        due("numbers", total("0007+shape"), 9);
        due("and first", holds("1=1 or 1=1 and 1=2"), true);
        due("and first", holds("1=2 and 1=1 or 1=1"), true);
        due("brackets", holds("[1=1 or 1=1] and 1=2"), false);
        due("not its fact only", holds("not 1=2 and 1=1"), true);
        due("not its fact only", holds("not 1=2 and 1=2"), false);
        due("not not", holds("not not 1=1"), true);
        due("all", holds("all"), true);
        due("not all", holds("not all"), false);
        due("not not all", holds("not not all"), true);
        due("or of two", holds("not [all or all]"), false);
        due("not of brackets", holds("not [1=1 or 1=2]"), false);
        due("below", holds("2<3"), true);
        due("below", holds("3<3"), false);
        due("above", holds("3>2"), true);
        due("above", holds("3>3"), false);
        due("like", holds("shape+1=press"), true);
        due("like", holds("shape=press"), false);
        promise(26);
        CarbonMinistry x = of(OFFICE.replace("slip 50;", "").replace("acts feel>30 and feeling<1;", ""));
        due("acts without: above 50", x.days(1), 0);
        CarbonMinistry y = of("officer a shape 0 press 0;feeling j;felt j of a is 51;fades feel;");
        due("acts without: above 50", y.days(1), 1);
        y.put(0, 0, 50);
        due("acts without: 50 is not", y.days(1), 0);
        CarbonMinistry z = of("officer a shape 4 press 6;officer b shape 5 press 7;feeling i;feeling j;felt i of a is 40;"
            + "felt j of b is 40;fades feel-press-day;acts shape=5 and press=7 and feeling=1 and day=1 and feel=25;");
        due("of the officer", z.days(1), 0);
        due("feels", z.feels(0, 0), 34);
        due("feels", z.feels(1, 1), 33);
        due("of the officer", z.days(1), 1);
        due("kept", z.kept(0, 2), 1);
    }
}
