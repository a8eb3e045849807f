/** Promise 31, term IV: questions. */
public final class QuestionTest {
    private static final Check CHECK = new Check("QuestionTest");

    public static void main(String[] args) {
        answers();
        behindYears();
        withoutTricks();
        withoutCrown();
        faults();
        tooDeep();
        CHECK.finish();
    }

    private static void asks(EmptyHat x, String text, long want) {
        CHECK.due("ask() of " + text, Check.ask(x, text), want);
        CHECK.due("fault(0) of " + text, x.fault(0), 0);
        CHECK.due("fault(1) of " + text, x.fault(1), -1);
        CHECK.due("the tape behind " + text, x.end(1), false);
    }

    /** Takes 40, 30, 25; look 3, 7, 1; sight 10, 26, 2, all by the first watcher; left 50, 30, 50. */
    private static void answers() {
        EmptyHat x = Check.crowned(Check.FAIR);
        asks(x, "first takes<35", 1);
        asks(x, "last takes<35", 2);
        asks(x, "first takes>99", -1);
        asks(x, "last takes>99", -1);
        asks(x, "first all", 0);
        asks(x, "last all", 2);
        asks(x, "often all", 3);
        asks(x, "often not all", 0);
        asks(x, "often takes>26 and look<5", 1);
        asks(x, "often takes=40 or look=1", 2);
        asks(x, "often takes=40 or takes=30 and look=1", 1);
        asks(x, "often [takes=40 or takes=30] and look=1", 0);
        asks(x, "often not takes=40 and look<5", 1);
        asks(x, "often not [takes=40 and look<5]", 2);
        asks(x, "often not not takes=40", 1);
        asks(x, "often takes<40", 2);
        asks(x, "often takes>30", 1);
        asks(x, "often 1+takes=(41)", 1);
        asks(x, " often\nall ", 3);
        asks(x, "total takes", 95);
        asks(x, "total number", 3);
        asks(x, "total look", 11);
        asks(x, "total times", 0);
        asks(x, "total known", 0);
        asks(x, "total sight", 38);
        asks(x, "total left", 130);
        asks(x, "total year", 0);
        asks(x, "total 2", 6);
        asks(x, "most sight", 26);
        asks(x, "most takes", 40);
        asks(x, "least sight", 2);
        asks(x, "least left", 30);
        asks(x, "least number", 0);
        asks(x, "most 0-takes", -25);
        asks(x, "least takes-30", -5);
        asks(x, "total seen 0", 38);
        asks(x, "total seen 1", 0);
        asks(x, "total seen 2", 0);
        asks(x, "total seen 9999", 0);
        asks(x, "total seen (0-1)", 0);
        for (int w = 2; w < 45; w++) {
            asks(x, "total seen " + w, 0);
            asks(x, "total seen (1-" + w + ")", 0);
        }
        asks(x, "total seen number", 10);
        asks(x, "total seen 0+1", 41);
        asks(x, "total seen seen 1", 38);
        asks(x, "total seen min(0,1)*2", 76);
        asks(x, "total takes/7*2", 24);
        asks(x, "total min(takes,30)+max(look,2)", 97);
        // Each product is bounded, not what is told of all together.
        asks(x, "total 9999*9999", 3000000);
        asks(x, "total 0-9999*9999", -3000000);
        asks(x, "total 9999*9999+1", 3000000);
        asks(x, "least (0-9999)*9999-1", -1000000);
        asks(x, "total (0-takes)/0", 0);
        asks(x, "most (0-takes)/7", -4);
        asks(x, "least (0-takes)/7", -6);
        x.image();
        CHECK.due("nothing changes", x.has(10) + x.has(3), 0);
    }

    private static void behindYears() {
        EmptyHat x = Check.crowned(Check.FAIR);
        x.show(3);
        asks(x, "total year", 3);
        asks(x, "total times", 2);
        asks(x, "total known", 36);
        asks(x, "first times=0", 2);
        // West has 30, east 10.
        asks(x, "total left", 70);
        asks(x, "most sight", 45);
        asks(x, "total seen 1", 5 + 9);
    }

    private static void withoutTricks() {
        EmptyHat x = Check.crowned("need 0 debt 0 rate 0;watch w seat 1 glass 1;");
        asks(x, "first all", -1);
        asks(x, "last all", -1);
        asks(x, "often all", 0);
        asks(x, "total 5", 0);
        asks(x, "most 5", 0);
        asks(x, "least 5", 0);
        CHECK.askFault(x, 1, "least ^");
    }

    private static void withoutCrown() {
        EmptyHat x = new EmptyHat();
        CHECK.due("ask()", Check.ask(x, "often all"), EmptyHat.NOTHING);
        CHECK.due("fault(0)", x.fault(0), 0);
        CHECK.due("the tape", x.end(1), false);
        Check.crown(x, "need ^");
        CHECK.due("fault(0)", x.fault(0), 1);
        CHECK.due("ask()", Check.ask(x, "often all"), EmptyHat.NOTHING);
        CHECK.due("fault(0) stays", x.fault(0), 1);
        CHECK.due("fault(1) stays", x.fault(1), 5);
        for (int what = 2; what < 6; what++) {
            CHECK.due("nothing is refused", x.status(what), 0);
        }
    }

    private static void faults() {
        EmptyHat x = Check.crowned(Check.FAIR);
        String[] marked = {"^", "  ^", "^x", "^5", "^takes", "^need 1", "^Total 1", "^totals 1", "total^", "total ^;",
            "total takes^;", "total takes ^takes", "total ^all", "total ^not", "total 1 ^and", "total 1 ^< 2",
            "total 1^]", "total (1^", "total ^)", "total ^dove", "total ^abcdefgh", "total ^seat", "total ^glass",
            "total ^belief", "total ^need", "total ^total", "total seen^", "total seen ^;", "total seen ^seat",
            "total 1234^5", "total 1 ^12345", "total^5", "total seen^1", "total 5^takes", "total min ^5",
            "total min(5^)", "total max(5,^)", "first takes^", "first takes ^", "first takes ^and all",
            "first takes<^", "first takes<^=3", "first 1=1 ^=1", "first 1=1^or all", "first 1=1 ^all", "first ^or",
            "first all ^+1", "first all or^", "first all and ^or", "often all ^all", "often all^;", "often not^",
            "often [all^", "often [all ^)", "often (^all)", "often ^]", "often [^]", "often ^seat=1", "often all^\t",
            "often ^\u00e9"};
        for (String m : marked) {
            CHECK.askFault(x, 1, m);
        }
        CHECK.due("status(1)", x.status(1), 0);
        asks(x, "often all", 3);
    }

    private static void tooDeep() {
        EmptyHat x = Check.crowned(Check.FAIR);
        CHECK.askFault(x, 4, "often not not not not not not ^not all");
        CHECK.askFault(x, 4, "often [[[[[[^[all]]]]]]]");
        CHECK.askFault(x, 4, "total ((((((^(1)))))))");
        CHECK.askFault(x, 4, "total seen seen seen seen seen seen ^seen 1");
        CHECK.askFault(x, 4, "often [[not not (seen min^(1,2)=1");
        CHECK.askFault(x, 4, "often [not [not [not 1=^(1)]]]");
        CHECK.askFault(x, 4, "often [not [not [not ^not");
        CHECK.askFault(x, 1, "often [not [not [not min ^1");
        CHECK.askFault(x, 4, "often not not not ((seen ^seen 1");
        CHECK.askFault(x, 1, "often not not not not not not ^or");
        asks(x, "often not not not not not not all and not not not not not not all", 3);
        asks(x, "often [[[[[[all]]]]]] or [all] or [all]", 3);
        // seen 1 is 0, seen 0 is 10, 26, 2, and seen of each of these is 0 again.
        asks(x, "total seen seen seen seen seen seen 1 + seen seen (seen 0)", 76);
        asks(x, "total seen 0+seen 0+seen 0+seen 0+seen 0+seen 0+seen 0+seen 0", 304);
        asks(x, "total ((((((1))))))+((((((1))))))", 6);
        asks(x, "often not not not not not (1)=1 or not not not not not 1=(1)", 0);
    }
}
