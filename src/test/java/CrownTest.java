/** Promises 4 to 9 and term I: crowns, their faults, what they tell. */
public final class CrownTest {
    private static final Check CHECK = new Check("CrownTest");
    private static final String HEAD = "need 1 debt 1 rate 1;";
    private static final String PLACE = HEAD + "stores s 1 yields 1;";

    public static void main(String[] args) {
        told();
        names();
        textsThatEndOrGoWrong();
        wordsAndNumbersSideBySide();
        numbersThatCannotBe();
        namesThatCannotBe();
        sums();
        tooDeep();
        tooMany();
        lastOneCounts();
        faultLeavesAll();
        newCrownStartsAnew();
        CHECK.finish();
    }

    private static void told() {
        EmptyHat x = new EmptyHat();
        CHECK.due("crown() of FAIR", Check.crown(x, Check.FAIR), 12);
        CHECK.due("fault(0)", x.fault(0), 0);
        CHECK.due("fault(1)", x.fault(1), -1);
        int[] has = {2, 3, 2, 0, 100, 40, 0, 80, 0, 0, 0};
        for (int what = 0; what < has.length; what++) {
            CHECK.due("has(" + what + ")", x.has(what), has[what]);
        }
        CHECK.due("has(11)", x.has(11), -1);
        CHECK.due("has(-1)", x.has(-1), -1);
        int[][] provinces = {{50, 20, 5}, {30, 10, 2}};
        int[][] tricks = {{40, 0, 3, 0, 0, 10}, {30, 1, 7, 0, 0, 26}, {25, 0, 1, 0, 0, 2}};
        int[][] watchers = {{2, 4, 38}, {8, 1, 0}};
        for (int what = -1; what < 7; what++) {
            for (int i = -1; i < 4; i++) {
                CHECK.due("province(" + i + ", " + what + ")", x.province(i, what), cell(provinces, i, what));
                CHECK.due("trick(" + i + ", " + what + ")", x.trick(i, what), cell(tricks, i, what));
                CHECK.due("watcher(" + i + ", " + what + ")", x.watcher(i, what), cell(watchers, i, what));
            }
        }
    }

    private static int cell(int[][] rows, int i, int what) {
        return i < 0 || i >= rows.length || what < 0 || what >= rows[i].length ? -1 : rows[i][what];
    }

    private static void names() {
        EmptyHat x = Check.crowned("need 0 debt 0 rate 0;stores abcdez 0 yields 0;trick first takes 1 from abcdez"
            + " look 0;watch q seat 0 glass 0;");
        int[] abcdez = {1, 2, 3, 4, 5, 26};
        int[] first = {6, 9, 18, 19, 20, 0};
        int[] q = {17, 0, 0, 0, 0, 0};
        for (int k = 0; k < 6; k++) {
            CHECK.due("letter(0, 0, " + k + ")", x.letter(0, 0, k), abcdez[k]);
            CHECK.due("letter(1, 0, " + k + ")", x.letter(1, 0, k), first[k]);
            CHECK.due("letter(2, 0, " + k + ")", x.letter(2, 0, k), q[k]);
        }
        int[][] none = {{0, 0, 6}, {0, 0, -1}, {0, 1, 0}, {0, -1, 0}, {3, 0, 0}, {-1, 0, 0}, {2, 1, 0}, {1, 1, 0}};
        for (int[] n : none) {
            CHECK.due("letter(" + n[0] + ", " + n[1] + ", " + n[2] + ")", x.letter(n[0], n[1], n[2]), -1);
        }
    }

    private static void textsThatEndOrGoWrong() {
        CHECK.crownFault(1, "^");
        CHECK.crownFault(1, "  \n ^");
        CHECK.crownFault(1, "^nee");
        CHECK.crownFault(1, "^needs 1 debt 1 rate 1;");
        CHECK.crownFault(1, "^Need 1 debt 1 rate 1;");
        CHECK.crownFault(1, "need^");
        CHECK.crownFault(1, "need ^");
        CHECK.crownFault(1, "need ^;");
        CHECK.crownFault(1, "need 1 ^rate 1");
        CHECK.crownFault(1, "need 1 debt 1 rate 1^");
        CHECK.crownFault(1, "need 1 debt 1 rate 1 ^.");
        CHECK.crownFault(1, "^stores s 1 yields 1;");
        CHECK.crownFault(1, HEAD + "^need 1 debt 1 rate 1;");
        CHECK.crownFault(1, HEAD + "^;");
        CHECK.crownFault(1, HEAD + "^\t");
        CHECK.crownFault(1, HEAD + "^\r\n");
        CHECK.crownFault(1, HEAD + "^\u00ff");
        CHECK.crownFault(1, HEAD + "^\0");
        CHECK.crownFault(1, HEAD + "^5");
        CHECK.crownFault(1, HEAD + "^first");
        CHECK.crownFault(1, HEAD + "^yields 1;");
        CHECK.crownFault(1, HEAD + "stores^");
        CHECK.crownFault(1, HEAD + "stores s 1 ^yield 1;");
        CHECK.crownFault(1, HEAD + "stores s 1 yields 1^");
        CHECK.crownFault(1, HEAD + "stores s 1 yields 1  ^");
        CHECK.crownFault(1, HEAD + "stores s 1 yields 1 ^stores");
        CHECK.crownFault(1, PLACE + "trick t takes 1 ^look 1;");
        CHECK.crownFault(1, PLACE + "trick t takes 1 from s ^seat 1;");
        CHECK.crownFault(1, HEAD + "watch w ^glass 1;");
        CHECK.crownFault(1, HEAD + "watch w seat 1 ^;");
        CHECK.crownFault(1, HEAD + "belief ^;");
        CHECK.crownFault(1, HEAD + "boys ^x;");
    }

    private static void wordsAndNumbersSideBySide() {
        CHECK.crownFault(1, "need^1 debt 1 rate 1;");
        CHECK.crownFault(1, "need 1^debt 1 rate 1;");
        CHECK.crownFault(1, HEAD + "stores s^1 yields 1;");
        CHECK.crownFault(1, HEAD + "stores s 1^yields 1;");
        CHECK.crownFault(1, HEAD + "sees^1;");
        CHECK.crownFault(1, HEAD + "sees look^1;");
        CHECK.crownFault(1, HEAD + "sees 1^look;");
        EmptyHat x = new EmptyHat();
        CHECK.due("blanks where one likes",
            Check.crown(x, "\n need\n1  debt 2\n\nrate 3 ; sees(look)*min ( 1,2)  ;\nboys 7;  \n"), 3);
        CHECK.due("has(4)", x.has(4), 2);
    }

    private static void numbersThatCannotBe() {
        CHECK.crownFault(1, "need 1000^0");
        CHECK.crownFault(1, "need 0000^1 debt 1 rate 1;");
        CHECK.crownFault(1, "need 1 debt 9999^9 rate 1;");
        CHECK.crownFault(1, "need 1 debt 1 rate 1000^0;");
        CHECK.crownFault(2, "need 1 debt 1 rate ^100;");
        CHECK.crownFault(2, "need 1 debt 1 rate ^0100;");
        CHECK.crownFault(2, HEAD + "stores s 1 yields ^1000;");
        CHECK.crownFault(2, PLACE + "trick t takes ^0 from s look 1;");
        CHECK.crownFault(2, PLACE + "trick t takes ^1000 from s look 1;");
        CHECK.crownFault(2, PLACE + "trick t takes 1 from s look ^10;");
        CHECK.crownFault(2, HEAD + "watch w seat ^10 glass 1;");
        CHECK.crownFault(2, HEAD + "watch w seat 1 glass ^10;");
        CHECK.crownFault(2, HEAD + "belief ^0;");
        CHECK.crownFault(2, HEAD + "belief ^101;");
        CHECK.crownFault(2, HEAD + "boys ^101;");
        CHECK.crownFault(1, HEAD + "stores s 1000^0 yields 1;");
        EmptyHat x = new EmptyHat();
        CHECK.due("the greatest", Check.crown(x, "need 9999 debt 9999 rate 99;stores s 9999 yields 999;"
            + "trick t takes 999 from s look 9;watch w seat 9 glass 9;belief 100;boys 100;"), 6);
        CHECK.due("the least", Check.crown(x, "need 0 debt 0 rate 0000;stores s 0 yields 0;"
            + "trick t takes 0001 from s look 0;watch w seat 0 glass 0;belief 1;boys 0;"), 6);
        CHECK.due("has(5)", x.has(5), 1);
    }

    private static void namesThatCannotBe() {
        CHECK.crownFault(1, HEAD + "stores ^look 1 yields 1;");
        CHECK.crownFault(1, HEAD + "stores ^or 1 yields 1;");
        CHECK.crownFault(1, HEAD + "stores ^need 1 yields 1;");
        CHECK.crownFault(1, HEAD + "stores ^max 1 yields 1;");
        CHECK.crownFault(1, HEAD + "stores ^stores 1 yields 1;");
        CHECK.crownFault(1, HEAD + "stores abcdef^g 1 yields 1;");
        CHECK.crownFault(1, HEAD + "stores stores^x 1 yields 1;");
        CHECK.crownFault(1, HEAD + "stores abcdef^ghijklmnop 1 yields 1;");
        CHECK.crownFault(1, HEAD + "stores ^7 1 yields 1;");
        CHECK.crownFault(1, HEAD + "stores ^; 1 yields 1;");
        CHECK.crownFault(1, HEAD + "stores ^S 1 yields 1;");
        CHECK.crownFault(1, HEAD + "stores s^S 1 yields 1;");
        CHECK.crownFault(1, PLACE + "trick t takes 1 from ^sees look 1;");
        CHECK.crownFault(1, PLACE + "trick t takes 1 from abcdef^g look 1;");
        CHECK.crownFault(1, PLACE + "trick ^times takes 1 from s look 1;");
        CHECK.crownFault(1, PLACE + "watch ^known seat 1 glass 1;");
        CHECK.crownFault(3, PLACE + "stores ^s 1 yields 1;");
        CHECK.crownFault(3, PLACE + "trick ^s takes 1 from s look 1;");
        CHECK.crownFault(3, PLACE + "watch ^s seat 1 glass 1;");
        CHECK.crownFault(3, PLACE + "watch w seat 1 glass 1;trick ^w takes 1 from s look 1;");
        CHECK.crownFault(3, PLACE + "trick t takes 1 from s look 1;stores ^t");
        CHECK.crownFault(3, PLACE + "trick t takes 1 from ^t look 1;");
        CHECK.crownFault(3, PLACE + "trick t takes 1 from ^later look 1;stores later 1 yields 1;");
        CHECK.crownFault(3, PLACE + "watch w seat 1 glass 1;trick t takes 1 from ^w look 1;");
        CHECK.crownFault(3, PLACE + "trick t takes 1 from ^first look 1;");
        // The words of questions alone are no OWN WORDS.
        CHECK.due("free words", Check.crown(new EmptyHat(), HEAD + "stores first 1 yields 1;stores often 1 yields 1;"
            + "trick last takes 1 from often look 1;watch total seat 1 glass 1;watch most seat 1 glass 1;"
            + "watch least seat 1 glass 1;watch s seat 1 glass 1;watch z seat 1 glass 1;"), 9);
    }

    private static void sums() {
        CHECK.crownFault(1, HEAD + "sees ^;");
        CHECK.crownFault(1, HEAD + "sees 1+^;");
        CHECK.crownFault(1, HEAD + "sees ^-1;");
        CHECK.crownFault(1, HEAD + "sees 1*^/2;");
        CHECK.crownFault(1, HEAD + "sees ^takes;");
        CHECK.crownFault(1, HEAD + "sees ^belief;");
        CHECK.crownFault(1, HEAD + "sees ^number;");
        CHECK.crownFault(1, HEAD + "sees ^seen 1;");
        CHECK.crownFault(1, HEAD + "sees ^foo;");
        CHECK.crownFault(1, HEAD + "sees ^abcdefghij;");
        CHECK.crownFault(1, HEAD + "loses ^seat;");
        CHECK.crownFault(1, HEAD + "loses ^glass;");
        CHECK.crownFault(1, HEAD + "sees 1 ^2;");
        CHECK.crownFault(1, HEAD + "sees 1 ^22222;");
        CHECK.crownFault(1, HEAD + "sees 1 ^look;");
        CHECK.crownFault(1, HEAD + "sees 1 ^< 2;");
        CHECK.crownFault(1, HEAD + "sees 1234^5;");
        CHECK.crownFault(1, HEAD + "sees (1^;");
        CHECK.crownFault(1, HEAD + "sees 1^);");
        CHECK.crownFault(1, HEAD + "sees (^);");
        CHECK.crownFault(1, HEAD + "sees min ^1;");
        CHECK.crownFault(1, HEAD + "sees min(1^);");
        CHECK.crownFault(1, HEAD + "sees max(1,2^,3);");
        CHECK.crownFault(1, HEAD + "sees 1^,2;");
        CHECK.crownFault(1, HEAD + "sees max(1,2^");
        CHECK.crownFault(1, HEAD + "sees 1^");
        CHECK.due("sees of all parts", Check.crown(new EmptyHat(), HEAD + "sees look+times+year+seat+glass;"), 2);
        CHECK.due("loses of all parts", Check.crown(new EmptyHat(), HEAD + "loses look+times+year+takes+belief;"), 2);
        seesIs("7/2", 3);
        seesIs("(0-7)/2+10", 6);
        seesIs("7/(0-2)+10", 6);
        seesIs("(0-7)/(0-2)", 3);
        seesIs("5/0+1", 1);
        seesIs("10-3-2", 5);
        seesIs("2*3/4*5", 5);
        seesIs("100/7/2", 7);
        seesIs("1+2*3", 7);
        seesIs("(1+2)*3", 9);
        seesIs("min(3,5)+max(2,9)", 12);
        seesIs("max(min(look,glass),seat)", 6);
        seesIs("look*seat+glass", 3 * 6 + 4);
        seesIs("9999*9999-9999*100-50", 50);
        seesIs("9999*9999+5-9999*100-50", 50);
        seesIs("0-9999*9999-5+9999*100+150", 50);
        seesIs("(0-9999)*9999+9999*100+150", 50);
        seesIs("0-1", 0);
        seesIs("99", 99);
        seesIs("100", 99);
        seesIs("times+year", 0);
        EmptyHat x = Check.crowned(PLACE + "trick t takes 1 from s look 3;watch w seat 6 glass 4;");
        CHECK.due("sees is glass without one", x.sight(0, 0), 4);
    }

    private static void seesIs(String sum, int want) {
        EmptyHat x = Check.crowned(PLACE + "trick t takes 1 from s look 3;watch w seat 6 glass 4;sees " + sum + ";");
        CHECK.due("sight by " + sum, x.sight(0, 0), want);
    }

    private static void tooDeep() {
        CHECK.crownFault(4, HEAD + "sees ((((((^(1");
        CHECK.crownFault(4, HEAD + "loses 1+(1*(1+(1*(1+(1*(1+^(1)))))));");
        CHECK.crownFault(4, HEAD + "sees min(1,(((((^(1)))))));");
        CHECK.crownFault(4, HEAD + "sees ((((((max^(1,2)))))));");
        CHECK.crownFault(4, HEAD + "sees min((((((^(1)))))),1);");
        CHECK.crownFault(4, HEAD + "sees min(1,2)+min((((((^(1");
        CHECK.crownFault(1, HEAD + "sees ((((((1^(");
        CHECK.crownFault(1, HEAD + "sees ((((((min ^1");
        CHECK.due("six open", Check.crown(new EmptyHat(), HEAD + "sees ((((((1))))))+((((min(1,(2))))));"), 2);
        CHECK.due("one after the other",
            Check.crown(new EmptyHat(), HEAD + "sees (1)+(1)+(1)+(1)+(1)+(1)+(1)+(1)+max(1,2)+max(1,2);"), 2);
    }

    private static void tooMany() {
        StringBuilder six = new StringBuilder(HEAD);
        for (char c = 'a'; c <= 'f'; c++) {
            six.append("stores ").append(c).append(" 1 yields 1;");
        }
        CHECK.due("six provinces", Check.crown(new EmptyHat(), six.toString()), 7);
        CHECK.crownFault(5, six + "^stores g 1 yields 1;");
        CHECK.crownFault(5, six + "  ^stores");
        for (char c = 'g'; c <= 'l'; c++) {
            six.append("trick ").append(c).append(" takes 1 from a look 1;");
        }
        CHECK.due("six tricks", Check.crown(new EmptyHat(), six.toString()), 13);
        CHECK.crownFault(5, six + "^trick m takes 1 from a look 1;");
        for (char c = 'm'; c <= 'q'; c++) {
            six.append("watch ").append(c).append(" seat 1 glass 1;");
        }
        CHECK.due("five watchers", Check.crown(new EmptyHat(), six.toString()), 18);
        CHECK.crownFault(5, six + "^watch r seat 1 glass 1;");
        CHECK.crownFault(5, six + "sees 1;loses 1;^sees 1;");
        CHECK.crownFault(5, six + "sees 1;loses 1;boys 1;^loses 1;");
        String sixty = HEAD + "boys 1;".repeat(59);
        CHECK.due("sixty statements", Check.crown(new EmptyHat(), sixty + " \n "), 60);
        CHECK.crownFault(5, sixty + "^boys 1;");
        CHECK.crownFault(5, sixty + " ^;");
        CHECK.crownFault(5, sixty + "^#");
        CHECK.crownFault(5, sixty + "^need 1");
        CHECK.crownFault(5, sixty + "^boyz");
        CHECK.crownFault(1, HEAD + "boys 1;".repeat(58) + "^#");
        CHECK.crownFault(1, HEAD + "boys 1;".repeat(58) + "boys 1^");
    }

    private static void lastOneCounts() {
        CHECK.due("BELIEF without", Check.crowned(HEAD).has(5), 50);
        CHECK.due("BELIEF", Check.crowned(HEAD + "belief 7;boys 1;belief 9;belief 8;").has(5), 8);
        EmptyHat x = Check.crowned(PLACE + "trick t takes 1 from s look 1;boys 100;boys 0;");
        CHECK.due("boys at last 0", x.chance(100), 0);
        x = Check.crowned(PLACE + "trick t takes 1 from s look 1;boys 0;boys 100;");
        CHECK.due("boys at last 100", x.chance(100), 100);
        x = Check.crowned(PLACE + "trick t takes 1 from s look 1;");
        CHECK.due("boys without", x.chance(100), 0);
        for (int seed = 0; seed < 400; seed++) {
            x = Check.crowned(PLACE + "trick t takes 1 from s look 1;");
            x.seed(seed * 1001);
            CHECK.due("boys without, seed " + seed, x.chance(1), 0);
        }
    }

    private static void faultLeavesAll() {
        EmptyHat x = Check.crowned(Check.FAIR);
        x.show(1);
        x.sit(0, 5);
        Check.count(x, 0, 0, 5);
        CHECK.due("crown() with a fault", Check.crown(x, HEAD + "stores q 7 yields 1;boys 200;"), -1);
        int[] has = {2, 3, 2, 1, x.has(4), 40, 0, 70, 0, 1, 2};
        for (int what = 0; what < has.length; what++) {
            CHECK.due("has(" + what + ")", x.has(what), has[what]);
        }
        CHECK.due("letter(0, 0, 0)", x.letter(0, 0, 0), 23);
        CHECK.due("province(0, 1)", x.province(0, 1), 20);
        CHECK.due("watcher(0, 0)", x.watcher(0, 0), 5);
        CHECK.due("trick(0, 3)", x.trick(0, 3), 1);
        CHECK.due("end(1): the tape is gone", x.end(1), false);
        CHECK.due("fault(0)", x.fault(0), 2);
        x.years(1);
        CHECK.due("fault(0) stays", x.fault(0), 2);
    }

    private static void newCrownStartsAnew() {
        EmptyHat x = Check.crowned(PLACE + "trick t takes 1 from s look 1;watch w seat 1 glass 1;sees 99;");
        x.sit(0, 7);
        x.years(3);
        Check.count(x, 0, 0, 0);
        x.seed(77);
        CHECK.due("has(8)", x.has(8), 1);
        CHECK.due("crown()", Check.crown(x, Check.FAIR), 12);
        int[] has = {2, 3, 2, 0, 100, 40, 0, 80, 0, 0, 0};
        for (int what = 0; what < has.length; what++) {
            CHECK.due("has(" + what + ")", x.has(what), has[what]);
        }
        CHECK.due("undo()", x.undo(), false);
        CHECK.due("kept(0, 0)", x.kept(0, 0), -1);
        EmptyHat y = Check.crowned(Check.FAIR);
        y.seed(77);
        CHECK.due("the seed stays", x.chance(20), y.chance(20));
        x.image();
        y.image();
        for (int k = 0; k < 25; k++) {
            CHECK.due("octet(" + k + ")", x.octet(k), y.octet(k));
        }
        CHECK.due("the same crown again", Check.crown(x, Check.FAIR), 12);
        CHECK.due("has(3)", x.has(3), 0);
        CHECK.due("trick(0, 4)", x.trick(0, 4), 0);
        // Sums of crowns that have gone do not come back.
        String plain = PLACE + "trick t takes 1 from s look 1;watch w seat 1 glass 7;watch v seat 1 glass 5;";
        for (int i = 0; i < 4; i++) {
            Check.crown(x, plain + "sees 77;loses 33;belief 40;");
            CHECK.due("sight(0, 0)", x.sight(0, 0), 77);
            x.show(1);
            CHECK.due("BELIEF", x.has(5), 7);
            Check.crown(x, plain);
            CHECK.due("sight(0, 0) by glass", x.sight(0, 0), 7);
            Check.on(x, Check.imageOf(0, 0, 0, 0, 0, 50, 0, 9, 0, 0, 0, 99, 1, 1));
            x.show(1);
            CHECK.due("BELIEF less 10", x.has(5), 40);
            Check.crown(x, HEAD);
        }
        CHECK.due("a crown of nothing", Check.crown(x, HEAD), 1);
        CHECK.due("has(0)", x.has(0), 0);
        CHECK.due("has(7)", x.has(7), 0);
        CHECK.due("has(4)", x.has(4), 1);
        CHECK.due("best(0)", x.best(0), 0);
        CHECK.due("years(1)", x.years(1), 0);
    }
}
