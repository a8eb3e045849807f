/** Term I, sentence by sentence: the text of a CROWN. */
final class EdgesOfCrowns {
    private static final String I = "Term I";
    private static final String HEAD = "need 1 debt 1 rate 1;";
    private static final String PLACE = HEAD + "stores s 1 yields 1;";
    private static final String TRICK = PLACE + "trick t takes 1 from s look 3;";
    private static final String SEEN = TRICK + "watch w seat 6 glass 4;";
    private static final String[] OWN = ("need, debt, rate, stores, yields, trick, takes, from, look, watch, seat, glass,"
        + " sees, loses, belief, boys, times, year, number, known, sight, left, seen, or, and, not, all, min, max")
        .split(", ");

    private EdgesOfCrowns() { }

    static void run() {
        statements();
        treasury();
        provinces();
        tricks();
        watchers();
        sumsOnce();
        beliefAndBoys();
        sumsAsWritten();
        parts();
        facts();
        values();
        bounds();
        names();
        ownWords();
        blanks();
        firstFault();
        wrongBytes();
        namesAndNumbersTooLong();
        endsTooSoon();
        numbersThatCannotBe();
        namesThatCannotBe();
        tooDeep();
        tooMany();
    }

    private static void statements() {
        Edge.says(I, "A CROWN is a text: { STATEMENT ; } (60 at most)");
        Edge.crownOf(1, HEAD);
        Edge.crownOf(2, PLACE);
        Edge.crownOf(60, HEAD + "boys 1;".repeat(59));
        Edge.crownFault(5, HEAD + "boys 1;".repeat(59) + "^boys 1;");
        Edge.crownFault(1, "need 1 debt 1 rate 1^");
        Edge.crownFault(1, HEAD + "^;");
    }

    private static void treasury() {
        Edge.says(I, "need N debt N rate N (0 .. 9999; 0 .. 9999; 0 .. 99 of a hundred a YEAR;");
        EmptyHat x = Edge.crownOf(1, "need 0 debt 0 rate 0;");
        Edge.due("years(1)", x.years(1), 1);
        Edge.due("has(4)", x.has(4), 0);
        x = Edge.crownOf(1, "need 9999 debt 9999 rate 99;");
        Edge.due("has(4)", x.has(4), 9999);
        Edge.due("years(1)", x.years(1), 0);
        Edge.due("has(4): 19998 and 19798 more", x.has(4), 39796);
        Edge.crownFault(1, "need 1000^0 debt 1 rate 1;");
        Edge.crownFault(1, "need 1 debt 1000^0 rate 1;");
        Edge.crownFault(2, "need 1 debt 1 rate ^100;");

        Edge.says(I, "the first STATEMENT, and it alone)");
        Edge.crownFault(1, "^boys 1;" + HEAD);
        Edge.crownFault(1, HEAD + "^need 1 debt 1 rate 1;");
        Edge.crownFault(1, "need 1 ^rate 1 debt 1;");
        Edge.crownFault(1, "need 1 debt 1^;");
    }

    private static void provinces() {
        Edge.says(I, "stores NAME N yields N (0 .. 9999; 0 .. 999;");
        EmptyHat x = Edge.crownOf(3, HEAD + "stores a 0 yields 0;stores b 9999 yields 999;");
        Edge.due("province(0, 0)", x.province(0, 0), 0);
        Edge.due("province(0, 1)", x.province(0, 1), 0);
        Edge.due("province(1, 0)", x.province(1, 0), 9999);
        Edge.due("province(1, 1)", x.province(1, 1), 999);
        Edge.crownFault(1, HEAD + "stores a 1000^0 yields 1;");
        Edge.crownFault(2, HEAD + "stores a 1 yields ^1000;");

        Edge.says(I, "6 PROVINCES)");
        String six = HEAD;
        for (char c = 'a'; c <= 'f'; c++) {
            six += "stores " + c + " 1 yields 1;";
        }
        Edge.due("has(0)", Edge.crownOf(7, six).has(0), 6);
        Edge.crownFault(5, six + "^stores g 1 yields 1;");
    }

    private static void tricks() {
        Edge.says(I, "trick NAME takes N from NAME look N (1 .. 999;");
        EmptyHat x = Edge.crownOf(4, PLACE + "trick a takes 1 from s look 0;trick b takes 999 from s look 9;");
        Edge.due("trick(0, 0)", x.trick(0, 0), 1);
        Edge.due("trick(1, 0)", x.trick(1, 0), 999);
        Edge.crownFault(2, PLACE + "trick a takes ^0 from s look 1;");
        Edge.crownFault(2, PLACE + "trick a takes ^1000 from s look 1;");

        Edge.says(I, "a PROVINCE; 0 .. 9;");
        Edge.due("trick(0, 2)", x.trick(0, 2), 0);
        Edge.due("trick(1, 2)", x.trick(1, 2), 9);
        Edge.crownFault(2, PLACE + "trick a takes 1 from s look ^10;");
        Edge.crownFault(3, TRICK + "trick a takes 1 from ^t look 1;");
        Edge.crownFault(3, HEAD + "watch w seat 1 glass 1;trick a takes 1 from ^w look 1;");
        x = Edge.crownOf(4, PLACE + "stores r 1 yields 1;trick a takes 1 from r look 1;");
        Edge.due("trick(0, 1)", x.trick(0, 1), 1);

        Edge.says(I, "6 TRICKS)");
        String six = PLACE;
        for (char c = 'a'; c <= 'f'; c++) {
            six += "trick " + c + " takes 1 from s look 1;";
        }
        Edge.due("has(1)", Edge.crownOf(8, six).has(1), 6);
        Edge.crownFault(5, six + "^trick g takes 1 from s look 1;");
    }

    private static void watchers() {
        Edge.says(I, "watch NAME seat N glass N (0 .. 9 each;");
        EmptyHat x = Edge.crownOf(3, HEAD + "watch a seat 0 glass 9;watch b seat 9 glass 0;");
        Edge.due("watcher(0, 0)", x.watcher(0, 0), 0);
        Edge.due("watcher(0, 1)", x.watcher(0, 1), 9);
        Edge.due("watcher(1, 0)", x.watcher(1, 0), 9);
        Edge.due("watcher(1, 1)", x.watcher(1, 1), 0);
        Edge.crownFault(2, HEAD + "watch a seat ^10 glass 1;");
        Edge.crownFault(2, HEAD + "watch a seat 1 glass ^10;");

        Edge.says(I, "5 WATCHERS)");
        String five = HEAD;
        for (char c = 'a'; c <= 'e'; c++) {
            five += "watch " + c + " seat 1 glass 1;";
        }
        Edge.due("has(2)", Edge.crownOf(6, five).has(2), 5);
        Edge.crownFault(5, five + "^watch f seat 1 glass 1;");
    }

    private static void sumsOnce() {
        Edge.says(I, "sees SUM, loses SUM (one each)");
        Edge.crownOf(3, HEAD + "sees 1;loses 1;");
        Edge.crownOf(3, HEAD + "loses 1;sees 1;");
        Edge.crownFault(5, HEAD + "sees 1;loses 1;^sees 1;");
        Edge.crownFault(5, HEAD + "loses 1;^loses 1;");
    }

    private static void beliefAndBoys() {
        Edge.says(I, "belief N (1 .. 100)");
        Edge.due("has(5)", Edge.crownOf(2, HEAD + "belief 1;").has(5), 1);
        Edge.due("has(5)", Edge.crownOf(2, HEAD + "belief 100;").has(5), 100);
        Edge.crownFault(2, HEAD + "belief ^0;");
        Edge.crownFault(2, HEAD + "belief ^101;");

        // By this seed the next DRAW of 100 is 0, by the other one 99.
        int least = 2088216195;
        int most = 1103527590;
        Edge.says(I, "boys N (0 .. 100)");
        Edge.due("boys 0, a DRAW of 0", boys(TRICK + "boys 0;", least), 0);
        Edge.due("boys 1, a DRAW of 0", boys(TRICK + "boys 1;", least), 1);
        Edge.due("boys 99, a DRAW of 99", boys(TRICK + "boys 99;", most), 0);
        Edge.due("boys 100, a DRAW of 99", boys(TRICK + "boys 100;", most), 1);
        Edge.crownFault(2, HEAD + "boys ^101;");

        Edge.says(I, "the last one of each counts");
        Edge.due("has(5)", Edge.crownOf(4, HEAD + "belief 7;belief 9;belief 8;").has(5), 8);
        Edge.due("boys 100, then 0", boys(TRICK + "boys 100;boys 0;", least), 0);
        Edge.due("boys 0, then 100", boys(TRICK + "boys 0;boys 100;", most), 1);

        Edge.says(I, "(50, 0 without)");
        Edge.due("has(5)", Edge.crownOf(1, HEAD).has(5), 50);
        Edge.due("no boys, a DRAW of 0", boys(TRICK, least), 0);
        EmptyHat x = new EmptyHat();
        for (int i = 0; i < 3; i++) {
            Check.crown(x, TRICK + "belief 9;boys 100;");
            Check.crown(x, HEAD + "belief 9;boys 100;");
            Check.crown(x, TRICK);
            Edge.due("has(5) behind a crown that told it", x.has(5), 50);
            Edge.due("chance(1) behind a crown that told boys", x.chance(1), 0);
        }
    }

    private static int boys(String text, int seed) {
        EmptyHat x = Check.crowned(text);
        x.seed(seed);
        return x.chance(1);
    }

    private static void seesIs(String sum, int want) {
        EmptyHat x = Edge.crownOf(5, SEEN + "sees " + sum + ";");
        Edge.due("sight(0, 0) by " + sum, x.sight(0, 0), want);
    }

    /** BELIEF is 90, and the TRICK is seen through by its first show. */
    private static void losesIs(String sum, int want) {
        EmptyHat x = Edge.crownOf(8, HEAD + "stores s 9 yields 0;trick t takes 7 from s look 3;"
            + "watch v seat 0 glass 0;watch w seat 0 glass 0;sees 50;belief 90;loses " + sum + ";");
        Edge.due("show(1) by " + sum, x.show(1), 7);
        Edge.due("has(5) by " + sum, x.has(5), 90 - want);
    }

    private static void sumsAsWritten() {
        Edge.says(I, "SUM: PRODUCT { + or - PRODUCT }.");
        seesIs("5", 5);
        seesIs("1+2-1+4", 6);
        Edge.crownFault(1, SEEN + "sees ^;");
        Edge.crownFault(1, SEEN + "sees ^+1;");
        Edge.crownFault(1, SEEN + "sees ^-1;");
        Edge.crownFault(1, SEEN + "sees 1+^;");
        Edge.crownFault(1, SEEN + "sees 1-^-1;");

        Edge.says(I, "PRODUCT: PART { * or / PART }.");
        seesIs("2*3/2*4", 12);
        seesIs("1+2*3", 7);
        Edge.crownFault(1, SEEN + "sees ^*2;");
        Edge.crownFault(1, SEEN + "sees 2*^;");
        Edge.crownFault(1, SEEN + "sees 2/^*2;");
        Edge.crownFault(1, SEEN + "sees 2*^-2;");
    }

    private static void parts() {
        Edge.says(I, "PART: N (1 to 4 digits); look; times; year; ( SUM ) ; min ( SUM , SUM ) ; max ( SUM , SUM ) ;");
        seesIs("0", 0);
        seesIs("7", 7);
        seesIs("0007", 7);
        seesIs("9999/1000", 9);
        seesIs("look", 3);
        seesIs("times+year", 0);
        seesIs("(5)", 5);
        seesIs("(1+2)*3", 9);
        seesIs("min(5,6)", 5);
        seesIs("min(6,5)", 5);
        seesIs("max(5,6)", 6);
        seesIs("max(6,5)", 6);
        seesIs("min(1+1,2*2)+max(0-1,0-2)", 1);
        Edge.crownFault(1, SEEN + "sees 1234^5;");
        Edge.crownFault(1, SEEN + "sees (^);");
        Edge.crownFault(1, SEEN + "sees (1^;");
        Edge.crownFault(1, SEEN + "sees 1^);");
        Edge.crownFault(1, SEEN + "sees min ^1;");
        Edge.crownFault(1, SEEN + "sees min(^,1);");
        Edge.crownFault(1, SEEN + "sees min(1^);");
        Edge.crownFault(1, SEEN + "sees max(1,^);");
        Edge.crownFault(1, SEEN + "sees max(1,2^,3);");
        Edge.crownFault(1, SEEN + "sees ^[1];");

        Edge.says(I, "in sees: seat; glass;");
        seesIs("seat", 6);
        seesIs("glass", 4);
        Edge.crownFault(1, SEEN + "loses ^seat;");
        Edge.crownFault(1, SEEN + "loses ^glass;");

        Edge.says(I, "in loses: takes; belief.");
        losesIs("takes", 7);
        losesIs("belief/2", 45);
        Edge.crownFault(1, SEEN + "sees ^takes;");
        Edge.crownFault(1, SEEN + "sees ^belief;");
        for (String word : new String[] {"number", "known", "sight", "left", "seen 1", "all", "not", "t", "first"}) {
            Edge.crownFault(1, SEEN + "sees ^" + word + ";");
            Edge.crownFault(1, SEEN + "loses ^" + word + ";");
        }
    }

    private static EmptyHat two(String sees) {
        return Check.crowned("need 0 debt 0 rate 0;stores s 99 yields 0;trick a takes 5 from s look 1;"
            + "trick b takes 8 from s look 2;watch v seat 3 glass 4;watch w seat 5 glass 6;" + sees);
    }

    private static void facts() {
        Edge.says(I, "(Of a TRICK where all look, how often it was SHOWN; the YEAR; of a WATCHER seat, glass;"
            + " how much the TRICK takes; the BELIEF.)");
        EmptyHat x = two("sees look*10+seat;");
        int[] due = {13, 23, 15, 25};
        for (int i = 0; i < 4; i++) {
            Edge.due("sight(" + i % 2 + ", " + i / 2 + ") by look, seat", x.sight(i % 2, i / 2), due[i]);
        }
        x = two("sees glass;");
        Edge.due("sight(0, 1) by glass", x.sight(0, 1), 6);
        x.sit(1, 0);
        Edge.due("sight(0, 1) from another seat", x.sight(0, 1), 6);
        x = two("sees times*10+year;");
        x.show(1);
        x.show(1);
        x.show(2);
        Edge.due("sight(0, 0): shown twice, in YEAR 3", x.sight(0, 0), 23);
        Edge.due("sight(1, 0): shown once, in YEAR 3", x.sight(1, 0), 13);
        x = two("sees 50;belief 100;loses takes+look*10+times*20+year*3;");
        x.show(0);
        x.show(2);
        Edge.due("less 8, 20, 20, 3", x.has(5), 49);
        x.show(1);
        Edge.due("less 5, 10, 20, 6", x.has(5), 8);
        x = two("sees 50;belief 100;loses look*10;");
        x.show(1);
        Edge.due("less 10, of the first TRICK", x.has(5), 90);
    }

    private static void values() {
        Edge.says(I, "All from the left on;");
        seesIs("10-3-2", 5);
        seesIs("10-2+3", 11);
        seesIs("100/7/2", 7);
        seesIs("7/2*2", 6);
        seesIs("2*3/4*5", 5);

        Edge.says(I, "/ gives the greatest whole number not above,");
        seesIs("7/2", 3);
        seesIs("6/2", 3);
        seesIs("1/2", 0);
        seesIs("(0-7)/2+10", 6);
        seesIs("(0-6)/2+10", 7);
        seesIs("7/(0-2)+10", 6);
        seesIs("(0-1)/9999+10", 9);
        seesIs("(0-7)/(0-2)", 3);

        Edge.says(I, "by 0 it gives 0;");
        seesIs("5/0+1", 1);
        seesIs("(0-5)/0+1", 1);
        seesIs("0/0+1", 1);
        seesIs("9/(look-3)*9+1", 1);
    }

    private static void bounds() {
        Edge.says(I, "each sum, difference, product above 10 to the 6 is that,");
        seesIs("9999*100+99-9999*100-50", 49);
        seesIs("9999*100+100-9999*100-50", 50);
        seesIs("9999*100+101-9999*100-50", 50);
        seesIs("9999*100-(0-99)-9999*100-50", 49);
        seesIs("9999*100-(0-101)-9999*100-50", 50);
        seesIs("1000*1000-9999*100-50", 50);
        seesIs("1000*1001-9999*100-50", 50);
        seesIs("9999*9999*9999*9999-9999*100-50", 50);
        seesIs("(0-1000)*(0-1001)-9999*100-50", 50);

        Edge.says(I, "below -10 to the 6 likewise.");
        seesIs("0-9999*100-99+9999*100+150", 51);
        seesIs("0-9999*100-100+9999*100+150", 50);
        seesIs("0-9999*100-101+9999*100+150", 50);
        seesIs("(0-9999*100)+(0-101)+9999*100+150", 50);
        seesIs("(0-1000)*1000+9999*100+150", 50);
        seesIs("(0-1000)*1001+9999*100+150", 50);
        seesIs("(0-9999)*9999*9999*9999+9999*100+150", 50);

        Edge.says(I, "Without: sees is glass, loses is 10.");
        EmptyHat x = Edge.crownOf(4, SEEN);
        Edge.due("sight(0, 0)", x.sight(0, 0), 4);
        Check.on(x, Check.imageOf(0, 0, 0, 0, 0, 50, 0, 1, 0, 0, 0, 96, 6));
        Edge.due("show(1)", x.show(1), 1);
        Edge.due("has(5)", x.has(5), 40);
        for (int i = 0; i < 3; i++) {
            Check.crown(x, SEEN + "sees 9;loses 9;");
            Check.crown(x, SEEN + "loses 8;sees 8;");
            Check.crown(x, SEEN);
            Edge.due("sight(0, 0) behind crowns that told it", x.sight(0, 0), 4);
            Check.on(x, Check.imageOf(0, 0, 0, 0, 0, 50, 0, 1, 0, 0, 0, 99, 6));
            x.show(1);
            Edge.due("has(5) behind crowns that told loses", x.has(5), 40);
        }
    }

    private static void names() {
        Edge.says(I, "NAMES: 1 to 6 letters,");
        EmptyHat x = Edge.crownOf(3, HEAD + "stores a 1 yields 1;stores abcxyz 1 yields 1;");
        Edge.due("letter(0, 0, 0)", x.letter(0, 0, 0), 1);
        Edge.due("letter(0, 1, 5)", x.letter(0, 1, 5), 26);
        Edge.crownFault(1, HEAD + "stores ^1 yields 1;");
        Edge.crownFault(1, HEAD + "stores abcdef^g 1 yields 1;");
        Edge.crownFault(1, HEAD + "stores ^A 1 yields 1;");
        Edge.crownFault(1, HEAD + "stores ab^_ 1 yields 1;");
        Edge.crownFault(1, HEAD + "stores ^` 1 yields 1;");
        Edge.crownFault(1, HEAD + "stores ^{ 1 yields 1;");

        Edge.says(I, "no OWN WORD,");
        Edge.crownFault(1, HEAD + "stores ^stores 1 yields 1;");
        Edge.crownFault(1, PLACE + "trick ^seen takes 1 from s look 1;");
        Edge.crownFault(1, PLACE + "watch ^or seat 1 glass 1;");
        Edge.crownOf(5, HEAD + "stores ne 1 yields 1;stores needs 1 yields 1;stores ors 1 yields 1;"
            + "stores o 1 yields 1;");

        Edge.says(I, "unlike ones (of all sorts),");
        String[] kinds = {"stores ^n 1 yields 1;", "trick ^n takes 1 from s look 1;", "watch ^n seat 1 glass 1;"};
        for (String first : kinds) {
            for (String second : kinds) {
                Edge.crownFault(3, PLACE + first.replace("^", "") + second);
                Edge.crownOf(4, PLACE + first.replace("^", "") + second.replace("^n", "nn"));
            }
        }

        Edge.says(I, "told ahead of where they are asked.");
        Edge.crownFault(3, HEAD + "trick t takes 1 from ^r look 1;stores r 1 yields 1;");
        Edge.crownFault(3, HEAD + "trick t takes 1 from ^t look 1;");
        Edge.crownOf(3, HEAD + "stores r 1 yields 1;trick t takes 1 from r look 1;");
    }

    private static void ownWords() {
        Edge.says(I, "OWN WORDS: " + String.join(", ", OWN) + ".");
        Edge.due("so many", OWN.length, 29);
        for (String own : OWN) {
            Edge.crownFault(1, HEAD + "stores ^" + own + " 1 yields 1;");
            Edge.crownFault(1, PLACE + "trick ^" + own + " takes 1 from s look 1;");
            Edge.crownFault(1, PLACE + "trick t takes 1 from ^" + own + " look 1;");
            Edge.crownFault(1, HEAD + "watch ^" + own + " seat 1 glass 1;");
        }
        for (String free : new String[] {"first", "last", "often", "total", "most", "least", "show", "crown", "a"}) {
            Edge.crownOf(2, HEAD + "stores " + free + " 1 yields 1;");
        }
    }

    private static void blanks() {
        Edge.says(I, "Blanks (10, 32) are where one likes");
        EmptyHat x = Edge.crownOf(5, " \n need\n1  debt 1\n\nrate 1 ; stores\ns 1 yields 1\n;\ntrick t takes 1 from s"
            + " look 3 ;watch w seat 6 glass 4; sees min ( look\n, ( 9 ) ) * 2 + 1 \n;\n ");
        Edge.due("sight(0, 0)", x.sight(0, 0), 7);
        x = Edge.crownOf(5, SEEN + "sees min(look,(9))*2+1;");
        Edge.due("sight(0, 0)", x.sight(0, 0), 7);
        for (int c : new int[] {0, 9, 11, 12, 13, 31, 33, 127, 138, 160, 255}) {
            Edge.crownFault(1, HEAD + "^" + (char) c + "boys 1;");
            Edge.crownFault(1, HEAD + "boys^" + (char) c + "1;");
        }

        Edge.says(I, "(words and numbers side by side need one).");
        Edge.crownFault(1, "need^1 debt 1 rate 1;");
        Edge.crownFault(1, "need 1^debt 1 rate 1;");
        Edge.crownFault(1, HEAD + "stores s^1 yields 1;");
        Edge.crownFault(1, HEAD + "stores^5");
        Edge.crownFault(1, HEAD + "sees^1;");
        Edge.crownFault(1, HEAD + "sees 1^look;");
        Edge.crownFault(1, HEAD + "sees look^1;");
        Edge.crownFault(1, HEAD + "boys^12345;");
        // 59 is the byte of ; and 43 that of +, and neither number is a sign.
        Edge.crownFault(1, HEAD + "sees look^59");
        Edge.crownFault(1, HEAD + "sees look^43 look;");
        Edge.crownFault(1, "^needdebt 1 rate 1;");
        Edge.crownOf(3, HEAD + "sees(look);loses(1);");
    }

    private static void firstFault() {
        Edge.says(I, "FAULTS, the first along the text:");
        Edge.crownFault(2, "need 1 debt 1 rate ^100;stores look 1;");
        Edge.crownFault(1, "need 1 ^dept 1 rate 100;");
        Edge.crownFault(3, PLACE + "stores ^s 99999 yields 1;");
        Edge.crownFault(5, HEAD + "sees 1;^sees );");
        Edge.crownFault(4, HEAD + "sees ((((((^((;belief 0;");
        Edge.crownFault(2, HEAD + "belief ^0;boys 101;boys");

        Edge.says(I, "1 the first byte with which no such text goes on");
        Edge.crownFault(1, "^;");
        Edge.crownFault(1, "need ^- 1");
        Edge.crownFault(1, HEAD + "boys 1 ^. ;");
        Edge.crownFault(1, HEAD + "boys ^;");
        Edge.crownFault(1, HEAD + "sees 1 ^< 2;");
        Edge.crownFault(1, HEAD + "sees 1^,2;");
        Edge.crownFault(1, HEAD + "sees 1 ^2;");
    }

    private static void wrongBytes() {
        Edge.says(I, "(words and numbers whole, at their first byte;");
        Edge.crownFault(1, "^nee");
        Edge.crownFault(1, "^needs 1 debt 1 rate 1;");
        Edge.crownFault(1, "^needy");
        Edge.crownFault(1, HEAD + "^boyss 1;");
        Edge.crownFault(1, HEAD + "stores s 1 ^yield 1;");
        Edge.crownFault(1, HEAD + "^12345");
        Edge.crownFault(1, HEAD + "sees 1 ^22222;");
        Edge.crownFault(1, HEAD + "sees ^abcdefghij;");
        Edge.crownFault(1, HEAD + "boys 1 ^23;");

        Edge.says(I, "where a NAME is asked, an OWN WORD so,");
        Edge.crownFault(1, HEAD + "stores ^yields 1 yields 1;");
        Edge.crownFault(1, PLACE + "trick ^takes 1 from s look 1;");
        Edge.crownFault(1, PLACE + "trick t takes 1 from ^look 1;");
        Edge.crownFault(1, HEAD + "watch ^seat 1 glass 1;");
    }

    private static void namesAndNumbersTooLong() {
        Edge.says(I, "a 7th letter at itself;");
        Edge.crownFault(1, HEAD + "stores abcdef^g");
        Edge.crownFault(1, HEAD + "stores yields^s 1 yields 1;");
        Edge.crownFault(1, PLACE + "trick abcdef^ghijklmnopqrstuvwxyz");
        Edge.crownFault(1, PLACE + "trick t takes 1 from sabcde^f look 1;");
        Edge.crownFault(1, HEAD + "watch needne^ed seat 1 glass 1;");
        Edge.crownFault(1, HEAD + "stores abcdef 1 yields 1;stores abcdef^g 1 yields 1;");

        Edge.says(I, "where a number is asked, a 5th digit at itself;");
        Edge.crownFault(1, "need 0000^0 debt 1 rate 1;");
        Edge.crownFault(1, "need 1 debt 1111^1 rate 1;");
        Edge.crownFault(1, "need 1 debt 1 rate 9999^9");
        Edge.crownFault(1, HEAD + "stores a 1234^567890 yields 1;");
        Edge.crownFault(1, HEAD + "stores a 1 yields 0000^1;");
        Edge.crownFault(1, PLACE + "trick a takes 0000^1 from s look 1;");
        Edge.crownFault(1, PLACE + "trick a takes 1 from s look 0000^1;");
        Edge.crownFault(1, HEAD + "watch a seat 0000^1 glass 1;");
        Edge.crownFault(1, HEAD + "watch a seat 1 glass 0000^1;");
        Edge.crownFault(1, HEAD + "belief 0000^1;");
        Edge.crownFault(1, HEAD + "boys 0000^1;");
        Edge.crownFault(1, HEAD + "sees 0000^1;");
        Edge.crownFault(1, HEAD + "loses 1+9999^9;");
        Edge.crownOf(2, HEAD + "boys 0001;");
    }

    private static void endsTooSoon() {
        Edge.says(I, "at the text's length, if it ends too soon);");
        String[] rows = {"need|1|debt|1|rate|1", "stores|a|1|yields|1", "trick|a|takes|1|from|s|look|1",
            "watch|a|seat|1|glass|1", "sees|min|(|1|,|(|1|+|1|)|*|1|)", "loses|1", "belief|1", "boys|1"};
        for (int row = 0; row < rows.length; row++) {
            String text = row == 0 ? "" : PLACE;
            String[] words = rows[row].split("\\|");
            for (String word : words) {
                text += word;
                Edge.crownFault(1, text + "^");
                Edge.crownFault(1, text + " \n^");
                text += " ";
            }
            Edge.crownOf(row == 0 ? 1 : 3, text + ";");
        }
    }

    private static void numbersThatCannotBe() {
        Edge.says(I, "2 a number that can't be, at it;");
        Edge.crownFault(2, "need 1 debt 1 rate ^9999;");
        Edge.crownFault(2, "need 1 debt 1 rate ^0100 ;");
        Edge.crownFault(2, HEAD + "stores a 1 yields   ^1000");
        Edge.crownFault(2, PLACE + "trick a takes ^0000 from s look 1;");
        Edge.crownFault(2, PLACE + "trick a takes ^9999 from s look 1;");
        Edge.crownFault(2, PLACE + "trick a takes 1 from s look ^99;");
        Edge.crownFault(2, HEAD + "watch a seat ^0010 glass 1;");
        Edge.crownFault(2, HEAD + "watch a seat 1 glass ^9999");
        Edge.crownFault(2, HEAD + "belief ^0000;");
        Edge.crownFault(2, HEAD + "belief ^9999;");
        Edge.crownFault(2, HEAD + "boys ^0101;");
    }

    private static void namesThatCannotBe() {
        Edge.says(I, "3 a NAME to be given that is there already,");
        Edge.crownFault(3, PLACE + "stores ^s");
        Edge.crownFault(3, SEEN + "stores \n^w 1 yields 1;");
        Edge.crownFault(3, SEEN + "trick ^t takes 1 from s look 1;");
        Edge.crownFault(3, SEEN + "watch ^t seat 1 glass 1;");
        EmptyHat x = Check.crowned(SEEN);
        Edge.due("a crown behind one with the same NAMES", Check.crown(x, SEEN), 4);

        Edge.says(I, "one that is none of what is asked, at it;");
        Edge.crownFault(3, PLACE + "trick a takes 1 from ^x look 1;");
        Edge.crownFault(3, PLACE + "trick a takes 1 from ^ss look 1;");
        Edge.crownFault(3, SEEN + "trick a takes 1 from ^w look 1;");
        Edge.crownFault(3, SEEN + "trick a takes 1 from ^t look 1;");
        Edge.crownFault(3, PLACE + "trick a takes 1 from ^a look 1;");
        Edge.due("a NAME of a crown that has gone", Check.crown(x, HEAD + "trick a takes 1 from s look 1;"), -1);
        Edge.due("fault(0)", x.fault(0), 3);
    }

    private static void tooDeep() {
        Edge.says(I, "4 the 7th ( that is open at once, at it;");
        Edge.crownOf(2, HEAD + "sees ((((((1))))));");
        Edge.crownOf(2, HEAD + "sees max(1,(((((1))))))+((((((1))))));");
        Edge.crownOf(2, HEAD + "loses (1)+(1)+(1)+(1)+(1)+(1)+(1)+min(1,1);");
        Edge.crownFault(4, HEAD + "sees ((((((^(1)))))));");
        Edge.crownFault(4, HEAD + "sees ((((((^(");
        Edge.crownFault(4, HEAD + "loses min(1,(((((^(1)))))));");
        Edge.crownFault(4, HEAD + "sees min((((((^(1)))))),1);");
        Edge.crownFault(4, HEAD + "sees ((((((max ^(1,1)))))));");
        Edge.crownFault(4, HEAD + "sees (((((1+(1)*(1*^(1)))))));");
        Edge.crownFault(1, HEAD + "sees ((((((1^(");
        Edge.crownFault(1, HEAD + "sees ((((((min ^1");
    }

    private static void tooMany() {
        Edge.says(I, "5 one too many of a kind");
        String all = HEAD;
        for (char c = 'a'; c <= 'f'; c++) {
            all += "stores p" + c + " 1 yields 1;trick t" + c + " takes 1 from pa look 1;";
            all += c < 'f' ? "watch w" + c + " seat 1 glass 1;" : "";
        }
        EmptyHat x = Edge.crownOf(18, all);
        Edge.due("has(0)", x.has(0) * 100 + x.has(1) * 10 + x.has(2), 665);
        for (String word : new String[] {"stores", "trick", "watch"}) {
            Edge.crownFault(5, all + "^" + word);
            Edge.crownFault(5, all + " \n ^" + word + " look");
            Edge.crownFault(5, all + "boys 1;^" + word + " pa 99999;");
        }

        Edge.says(I, "(a second sees, loses, too),");
        Edge.crownFault(5, HEAD + "sees 1;boys 1; ^sees");
        Edge.crownFault(5, HEAD + "loses 1;sees 1;^loses ;");
        Edge.crownFault(5, HEAD + "sees 1;^sees 1;");

        Edge.says(I, "a 61st STATEMENT (whatever stands there), at its first byte.");
        String sixty = HEAD + "boys 1;".repeat(59);
        Edge.crownOf(60, sixty + "\n ");
        for (String there : new String[] {"boys 1;", ";", "#", "need 1 debt 1 rate 1;", "boyz", "5", "12345", "\t",
            "stores s 1 yields 1;", "abcdefgh", "sees"}) {
            Edge.crownFault(5, sixty + "^" + there);
            Edge.crownFault(5, sixty + " \n^" + there);
        }
        Edge.crownFault(1, HEAD + "boys 1;".repeat(58) + "^#");
        Edge.crownFault(1, HEAD + "boys 1;".repeat(58) + "boys 1^#");
    }
}
