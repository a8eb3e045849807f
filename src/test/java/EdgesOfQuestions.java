/** Term IV, sentence by sentence: questions and images. */
final class EdgesOfQuestions {
    private static final String IV = "Term IV";
    private static final String NO_TRICKS = "need 0 debt 0 rate 0;stores p 5 yields 0;watch w seat 1 glass 1;";

    private EdgesOfQuestions() { }

    static void run() {
        kinds();
        tests();
        parts();
        watchersAsked();
        wrongBytes();
        tooDeep();
        image();
    }

    /** Takes 40, 30, 25; look 3, 7, 1; sight 10, 26, 2, all by the first watcher; left 50, 30, 50. */
    private static EmptyHat fair() {
        return Check.crowned(Check.FAIR);
    }

    private static void kinds() {
        EmptyHat x = fair();
        EmptyHat none = Check.crowned(NO_TRICKS);
        Edge.says(IV, "A QUESTION is a text, of all TRICKS: first TEST, last TEST (the first, the last TRICK for which it"
            + " holds),");
        Edge.asks(x, "first takes<35", 1);
        Edge.asks(x, "last takes>26", 1);
        Edge.asks(x, "first all", 0);
        Edge.asks(x, "last all", 2);
        Edge.asks(x, "first takes>40", -1);
        Edge.asks(x, "last takes>40", -1);
        Edge.asks(none, "first all", -1);
        Edge.asks(none, "last all", -1);

        Edge.says(IV, "often TEST (for how many),");
        Edge.asks(x, "often all", 3);
        Edge.asks(x, "often takes>25", 2);
        Edge.asks(x, "often takes>40", 0);
        Edge.asks(none, "often all", 0);

        Edge.says(IV, "total SUM (of all together),");
        Edge.asks(x, "total takes", 95);
        Edge.asks(x, "total 0-takes", -95);
        Edge.asks(x, "total 1000*1000", 3000000);
        Edge.asks(x, "total 0-1000*1000", -3000000);
        Edge.asks(none, "total 5", 0);

        Edge.says(IV, "most SUM, least SUM (the greatest, the least of all; 0 without TRICKS).");
        Edge.asks(x, "most takes", 40);
        Edge.asks(x, "least takes", 25);
        Edge.asks(x, "most 0-takes", -25);
        Edge.asks(x, "least 0-takes", -40);
        Edge.asks(none, "most 5", 0);
        Edge.asks(none, "least 0-5", 0);
    }

    private static void tests() {
        EmptyHat x = fair();
        Edge.says(IV, "TEST: BOTH { or BOTH }.");
        Edge.asks(x, "often takes=40 or look=1", 2);
        Edge.asks(x, "often takes=1 or takes=2 or takes=30", 1);
        Edge.asks(x, "often takes=40 or takes=30 and look=1", 1);
        Edge.askFault(x, 1, "often ^or all");
        Edge.askFault(x, 1, "often all or ^");
        Edge.askFault(x, 1, "often all ^all");

        Edge.says(IV, "BOTH: FACT { and FACT }.");
        Edge.asks(x, "often takes>26 and look<5 and all", 1);
        Edge.asks(x, "often look=1 and takes=30 or takes=40", 1);
        Edge.askFault(x, 1, "often ^and all");
        Edge.askFault(x, 1, "often all and ^");
        Edge.askFault(x, 1, "often all and ^or all");

        x = fair();
        Edge.says(IV, "FACT: not FACT; [ TEST ] ; all; SUM SIGN SUM, SIGN < or > or = .");
        Edge.asks(x, "often not takes=40", 2);
        Edge.asks(x, "often not not takes=40", 1);
        Edge.asks(x, "often not takes=40 and look<5", 1);
        Edge.asks(x, "often not [takes=40 and look<5]", 2);
        Edge.asks(x, "often [takes=40 or takes=30] and look=1", 0);
        Edge.asks(x, "often takes<30", 1);
        Edge.asks(x, "often takes=30", 1);
        Edge.asks(x, "often takes>30", 1);
        Edge.asks(x, "often 1+takes=(41)", 1);
        Edge.askFault(x, 1, "often takes^");
        Edge.askFault(x, 1, "often takes ^and all");
        Edge.askFault(x, 1, "often takes<^=3");
        Edge.askFault(x, 1, "often 1=1 ^=1");
        Edge.askFault(x, 1, "often all ^=1");
        Edge.askFault(x, 1, "often not^");
        Edge.askFault(x, 1, "often [^]");
        Edge.askFault(x, 1, "often [all^");
        Edge.askFault(x, 1, "often (^all)");
        Edge.askFault(x, 1, "often (1^=1)");
        Edge.askFault(x, 1, "total ^all");
        Edge.askFault(x, 1, "total 1 ^= 1");
    }

    private static void parts() {
        EmptyHat x = fair();
        x.show(3);
        Edge.says(IV, "SUM as in I, but PART: N; number; takes; look; times; known; sight; left; year; seen PART;"
            + " ( SUM ) ; min ( SUM , SUM ) ; max ( SUM , SUM ) .");
        Edge.asks(x, "total 9999", 29997);
        Edge.asks(x, "total takes", 95);
        Edge.asks(x, "total look", 11);
        Edge.asks(x, "total times", 2);
        Edge.asks(x, "total year", 3);
        Edge.asks(x, "total (takes)+min(takes,30)+max(look,2)", 95 + 85 + 12);
        Edge.asks(x, "most 7/2", 3);
        Edge.asks(x, "most (0-7)/2", -4);
        Edge.asks(x, "most 5/0", 0);
        Edge.asks(x, "most 1000*1000", 1000000);
        Edge.asks(x, "most 1000*1000+1", 1000000);
        Edge.asks(x, "most 1000*1000-1", 999999);
        Edge.asks(x, "least 0-1000*1000-1", -1000000);
        Edge.asks(x, "least 0-1000*1000+1", -999999);
        Edge.asks(x, "least (0-1001)*1000", -1000000);
        Edge.askFault(x, 1, "total 1234^5");
        x = fair();
        for (String word : new String[] {"seat", "glass", "belief", "dove", "west", "need", "total", "or"}) {
            Edge.askFault(x, 1, "total ^" + word);
        }
        x = fair();
        x.show(3);
        Edge.says(IV, "(The TRICK's number; by how much it is KNOWN; its SIGHT; what is in the store of its PROVINCE;");
        Edge.asks(x, "least number", 0);
        Edge.asks(x, "most number", 2);
        Edge.asks(x, "total known", 36);
        Edge.asks(x, "first known=26", 1);
        // By abe 20, 36, 2, by bea 5, 9, 0.
        Edge.asks(x, "most sight", 45);
        Edge.asks(x, "total sight", 72);
        // West has 30 behind the show, east 10.
        Edge.asks(x, "total left", 70);
        Edge.asks(x, "first left=10", 1);
    }

    private static void watchersAsked() {
        EmptyHat x = fair();
        x.show(3);
        Edge.says(IV, "its SIGHT by the WATCHER of that number, 0 of those that there are not.)");
        Edge.asks(x, "total seen 0", 58);
        Edge.asks(x, "total seen 1", 14);
        Edge.asks(x, "total seen 2", 0);
        Edge.asks(x, "total seen 4", 0);
        Edge.asks(x, "total seen 5", 0);
        Edge.asks(x, "total seen 9999", 0);
        Edge.asks(x, "total seen (0-1)", 0);
        Edge.asks(x, "total seen (0-1000*1000)", 0);
        for (int w = 2; w <= 40; w++) {
            EmptyHat y = fair();
            y.show(3);
            Edge.asks(y, "total seen " + w, 0);
            Edge.asks(y, "total seen (1-" + w + ")", 0);
        }
        Edge.asks(x, "total seen number", 20 + 9);
        Edge.asks(x, "total seen 0+1", 61);
        Edge.asks(x, "total seen 1*2", 28);
        EmptyHat five = Check.crowned("need 0 debt 0 rate 0;stores p 5 yields 0;trick t takes 1 from p look 0;"
            + "watch a seat 0 glass 1;watch b seat 0 glass 2;watch c seat 0 glass 3;watch d seat 0 glass 4;"
            + "watch e seat 0 glass 5;");
        for (int w = 0; w < 6; w++) {
            Edge.asks(five, "total seen " + w, w < 5 ? w + 1 : 0);
        }
    }

    private static void wrongBytes() {
        EmptyHat x = fair();
        Edge.says(IV, "Its FAULTS: 1 as in I (an unknown word at its first byte;");
        Edge.askFault(x, 1, "^");
        Edge.askFault(x, 1, " \n^");
        Edge.askFault(x, 1, "^x");
        Edge.askFault(x, 1, "^firsts all");
        Edge.askFault(x, 1, "^need 1");
        Edge.askFault(x, 1, "^5");
        Edge.askFault(x, 1, "total ^abcdefghijk");
        Edge.askFault(x, 1, "total 1+^take");
        Edge.askFault(x, 1, "total^");
        Edge.askFault(x, 1, "total ^");
        Edge.askFault(x, 1, "total^5");
        Edge.askFault(x, 1, "total seen^1");
        Edge.askFault(x, 1, "total 5^takes");
        Edge.askFault(x, 1, "often all^\t");
        x = fair();
        Edge.askFault(x, 1, "total min ^5");
        Edge.askFault(x, 1, "total min(5^)");
        Edge.askFault(x, 1, "total max(5,^)");
        Edge.askFault(x, 1, "total (1^");
        Edge.askFault(x, 1, "total 1 + 0000^1");
        Edge.asks(x, "\noften\nall \n", 3);

        Edge.says(IV, "what stands behind it, too);");
        Edge.askFault(x, 1, "total takes^;");
        Edge.askFault(x, 1, "total takes ^takes");
        Edge.askFault(x, 1, "total 1 ^12345");
        Edge.askFault(x, 1, "total 1^)");
        Edge.askFault(x, 1, "often all^;");
        Edge.askFault(x, 1, "often all ^total 1");
        Edge.askFault(x, 1, "often all^]");
    }

    private static void tooDeep() {
        EmptyHat x = fair();
        Edge.says(IV, "4 the 7th of ( [ not seen that is open at once (not until its FACT, seen until its PART ends), at"
            + " it.");
        Edge.asks(x, "often not not not not not not all", 3);
        Edge.asks(x, "often [[[[[[all]]]]]]", 3);
        Edge.asks(x, "total ((((((1))))))", 3);
        // Seen by 1 is 0, seen by 0 is 10, 26, 2, seen by each of these is 0 again.
        Edge.asks(x, "total seen seen seen seen seen seen 1", 38);
        Edge.asks(x, "total seen seen seen seen seen 1", 0);
        Edge.askFault(x, 4, "often not not not not not not ^not all");
        Edge.askFault(x, 4, "often [[[[[[^[all]]]]]]]");
        Edge.askFault(x, 4, "total ((((((^(1)))))))");
        Edge.askFault(x, 4, "total seen seen seen seen seen seen ^seen 1");
        Edge.askFault(x, 4, "total min(((((min(1,^(1))))))),1)");
        x = fair();
        Edge.askFault(x, 4, "total ((((((max^(1,1)))))))");
        Edge.askFault(x, 4, "often not [not [not (^seen (1))=1]]");
        Edge.askFault(x, 4, "often not [not [not seen ^(1)=1]]");
        Edge.askFault(x, 4, "often not [not [not [^not all]]]");
        Edge.askFault(x, 4, "often not [not [not [^[all]]]]");
        Edge.askFault(x, 4, "often not [not [not [1=^seen 1]]]");
        // A not is open in both SUMS of its FACT, and not behind it; a seen is not open behind its PART.
        Edge.askFault(x, 4, "often not not not not not not ^(1)=1");
        Edge.askFault(x, 4, "often not not not not not not 1=^(1)");
        Edge.asks(x, "often not not not not not not all and not all or not not not not not not all", 3);
        x = fair();
        Edge.asks(x, "total seen seen seen seen seen seen 1+seen 0", 76);
        Edge.asks(x, "total seen 0*seen 0*((((((1))))))", 100 + 676 + 4);
        Edge.asks(x, "often [[[[[[all]]]]]] and [all]", 3);
        Edge.askFault(x, 1, "often not not not not not not ^or");
        Edge.askFault(x, 1, "total ((((((1^(");
    }

    private static void image() {
        EmptyHat x = Check.crowned("need 1 debt 0 rate 0;stores p 9 yields 0;stores q 8 yields 0;"
            + "trick t takes 1 from p look 0;trick u takes 1 from p look 0;watch v seat 0 glass 0;watch w seat 0 glass 0;");
        int[] ahead = {3, 231, 1, 0x86, 0x9f, 100, 0x27, 0x0f, 1, 2, 0x27, 0x0e, 3, 230, 4, 5, 1, 6, 9, 7};
        Check.on(x, Check.imageOf(ahead));
        Edge.says(IV, "AN IMAGE: YEAR (two bytes, the higher first), debt (three bytes), BELIEF;");
        Edge.due("has(3)", x.has(3), 999);
        Edge.due("has(4)", x.has(4), 99999);
        Edge.due("has(5)", x.has(5), 100);
        Edge.due("image()", x.image(), 21);
        octets(x, ahead, 0, 6);
        Edge.says(IV, "for each PROVINCE its store (two bytes);");
        Edge.due("province(0, 0)", x.province(0, 0), 9999);
        Edge.due("province(1, 0)", x.province(1, 0), 258);
        octets(x, ahead, 6, 10);
        Edge.says(IV, "for each TRICK how often SHOWN (two bytes), by how much KNOWN (two bytes);");
        Edge.due("trick(0, 3)", x.trick(0, 3), 9998);
        Edge.due("trick(0, 4)", x.trick(0, 4), 998);
        Edge.due("trick(1, 3)", x.trick(1, 3), 1029);
        Edge.due("trick(1, 4)", x.trick(1, 4), 262);
        octets(x, ahead, 10, 18);
        Edge.says(IV, "for each WATCHER his seat;");
        Edge.due("watcher(0, 0)", x.watcher(0, 0), 9);
        Edge.due("watcher(1, 0)", x.watcher(1, 0), 7);
        octets(x, ahead, 18, 20);
        Edge.says(IV, "last a byte: all ahead from 97 on, c = (3 c + it) mod 251.");
        Edge.due("octet(20)", x.octet(20), Check.imageOf(ahead)[20]);
        // 291 is 40; 120; 360 is 109; 327 is 76; 228; 684 is 182.
        x = new EmptyHat();
        x.image();
        Edge.due("octet(6) of six times 0", x.octet(6), 182);
    }

    private static void octets(EmptyHat x, int[] ahead, int from, int to) {
        for (int k = from; k < to; k++) {
            Edge.due("octet(" + k + ")", x.octet(k), ahead[k]);
        }
    }
}
