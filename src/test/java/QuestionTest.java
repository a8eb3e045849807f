/** Promise 31, term IV: questions. */
public final class QuestionTest {
    private static final Check CHECK = new Check("QuestionTest");

    public static void main(String[] args) {
        answers();
        behindYears();
        withoutTricks();
        withoutCrown();
        faults();
        tooDeep();
        CHECK.finish();
    }

    private static void asks(EmptyHat x, String text, long want) {
        CHECK.due("ask() of " + text, Check.ask(x, text), want);
        CHECK.due("fault(0) of " + text, x.fault(0), 0);
        CHECK.due("fault(1) of " + text, x.fault(1), -1);
        CHECK.due("the tape behind " + text, x.end(1), false);
    }

    /** A new object for each question: after 512 calls its answers are free. */
    private static EmptyHat fair() {
        return Check.crowned(Check.FAIR);
    }

    /** Takes 40, 30, 25; look 3, 7, 1; sight 10, 26, 2, all by the first watcher; left 50, 30, 50. */
    private static void answers() {
        asks(fair(), "first takes<35", 1);
        asks(fair(), "last takes<35", 2);
        asks(fair(), "first takes>99", -1);
        asks(fair(), "last takes>99", -1);
        asks(fair(), "first all", 0);
        asks(fair(), "last all", 2);
        asks(fair(), "often all", 3);
        asks(fair(), "often not all", 0);
        asks(fair(), "often takes>26 and look<5", 1);
        asks(fair(), "often takes=40 or look=1", 2);
        asks(fair(), "often takes=40 or takes=30 and look=1", 1);
        asks(fair(), "often [takes=40 or takes=30] and look=1", 0);
        asks(fair(), "often not takes=40 and look<5", 1);
        asks(fair(), "often not [takes=40 and look<5]", 2);
        asks(fair(), "often not not takes=40", 1);
        asks(fair(), "often takes<40", 2);
        asks(fair(), "often takes>30", 1);
        asks(fair(), "often 1+takes=(41)", 1);
        asks(fair(), " often\nall ", 3);
        asks(fair(), "total takes", 95);
        asks(fair(), "total number", 3);
        asks(fair(), "total look", 11);
        asks(fair(), "total times", 0);
        asks(fair(), "total known", 0);
        asks(fair(), "total sight", 38);
        asks(fair(), "total left", 130);
        asks(fair(), "total year", 0);
        asks(fair(), "total 2", 6);
        asks(fair(), "most sight", 26);
        asks(fair(), "most takes", 40);
        asks(fair(), "least sight", 2);
        asks(fair(), "least left", 30);
        asks(fair(), "least number", 0);
        asks(fair(), "most 0-takes", -25);
        asks(fair(), "least takes-30", -5);
        asks(fair(), "total seen 0", 38);
        asks(fair(), "total seen 1", 0);
        asks(fair(), "total seen 2", 0);
        asks(fair(), "total seen 9999", 0);
        asks(fair(), "total seen (0-1)", 0);
        for (int w = 2; w < 45; w++) {
            asks(fair(), "total seen " + w, 0);
            asks(fair(), "total seen (1-" + w + ")", 0);
        }
        asks(fair(), "total seen number", 10);
        asks(fair(), "total seen 0+1", 41);
        asks(fair(), "total seen seen 1", 38);
        asks(fair(), "total seen min(0,1)*2", 76);
        asks(fair(), "total takes/7*2", 24);
        asks(fair(), "total min(takes,30)+max(look,2)", 97);
        // Each product is bounded, not what is told of all together.
        asks(fair(), "total 9999*9999", 3000000);
        asks(fair(), "total 0-9999*9999", -3000000);
        asks(fair(), "total 9999*9999+1", 3000000);
        asks(fair(), "least (0-9999)*9999-1", -1000000);
        asks(fair(), "total (0-takes)/0", 0);
        asks(fair(), "most (0-takes)/7", -4);
        asks(fair(), "least (0-takes)/7", -6);
        EmptyHat x = fair();
        asks(x, "total takes", 95);
        CHECK.due("nothing changes", x.has(10) + x.has(3), 0);
    }

    private static void behindYears() {
        EmptyHat x = Check.crowned(Check.FAIR);
        x.show(3);
        asks(x, "total year", 3);
        asks(x, "total times", 2);
        asks(x, "total known", 36);
        asks(x, "first times=0", 2);
        // West has 30, east 10.
        asks(x, "total left", 70);
        asks(x, "most sight", 45);
        asks(x, "total seen 1", 5 + 9);
    }

    private static void withoutTricks() {
        EmptyHat x = Check.crowned("need 0 debt 0 rate 0;watch w seat 1 glass 1;");
        asks(x, "first all", -1);
        asks(x, "last all", -1);
        asks(x, "often all", 0);
        asks(x, "total 5", 0);
        asks(x, "most 5", 0);
        asks(x, "least 5", 0);
        CHECK.askFault(x, 1, "least ^");
    }

    private static void withoutCrown() {
        EmptyHat x = new EmptyHat();
        CHECK.due("ask()", Check.ask(x, "often all"), EmptyHat.NOTHING);
        CHECK.due("fault(0)", x.fault(0), 0);
        CHECK.due("the tape", x.end(1), false);
        Check.crown(x, "need ^");
        CHECK.due("fault(0)", x.fault(0), 1);
        CHECK.due("ask()", Check.ask(x, "often all"), EmptyHat.NOTHING);
        CHECK.due("fault(0) stays", x.fault(0), 1);
        CHECK.due("fault(1) stays", x.fault(1), 5);
        for (int what = 2; what < 6; what++) {
            CHECK.due("nothing is refused", x.status(what), 0);
        }
    }

    private static void faults() {
        String[] marked = {"^", "  ^", "^x", "^5", "^takes", "^need 1", "^Total 1", "^totals 1", "total^", "total ^;",
            "total takes^;", "total takes ^takes", "total ^all", "total ^not", "total 1 ^and", "total 1 ^< 2",
            "total 1^]", "total (1^", "total ^)", "total ^dove", "total ^abcdefgh", "total ^seat", "total ^glass",
            "total ^belief", "total ^need", "total ^total", "total seen^", "total seen ^;", "total seen ^seat",
            "total 1234^5", "total 1 ^12345", "total^5", "total seen^1", "total 5^takes", "total min ^5",
            "total min(5^)", "total max(5,^)", "first takes^", "first takes ^", "first takes ^and all",
            "first takes<^", "first takes<^=3", "first 1=1 ^=1", "first 1=1^or all", "first 1=1 ^all", "first ^or",
            "first all ^+1", "first all or^", "first all and ^or", "often all ^all", "often all^;", "often not^",
            "often [all^", "often [all ^)", "often (^all)", "often ^]", "often [^]", "often ^seat=1", "often all^\t",
            "often ^\u00e9"};
        for (String m : marked) {
            EmptyHat x = fair();
            CHECK.askFault(x, 1, m);
            CHECK.due("status(1)", x.status(1), 0);
            asks(x, "often all", 3);
        }
    }

    private static void tooDeep() {
        EmptyHat x = Check.crowned(Check.FAIR);
        CHECK.askFault(x, 4, "often not not not not not not ^not all");
        CHECK.askFault(x, 4, "often [[[[[[^[all]]]]]]]");
        CHECK.askFault(x, 4, "total ((((((^(1)))))))");
        CHECK.askFault(x, 4, "total seen seen seen seen seen seen ^seen 1");
        CHECK.askFault(x, 4, "often [[not not (seen min^(1,2)=1");
        CHECK.askFault(x, 4, "often [not [not [not 1=^(1)]]]");
        CHECK.askFault(x, 4, "often [not [not [not ^not");
        CHECK.askFault(x, 1, "often [not [not [not min ^1");
        CHECK.askFault(x, 4, "often not not not ((seen ^seen 1");
        CHECK.askFault(x, 1, "often not not not not not not ^or");
        asks(x, "often not not not not not not all and not not not not not not all", 3);
        asks(x, "often [[[[[[all]]]]]] or [all] or [all]", 3);
        // seen 1 is 0, seen 0 is 10, 26, 2, and seen of each of these is 0 again.
        asks(x, "total seen seen seen seen seen seen 1 + seen seen (seen 0)", 76);
        asks(x, "total seen 0+seen 0+seen 0+seen 0+seen 0+seen 0+seen 0+seen 0", 304);
        asks(x, "total ((((((1))))))+((((((1))))))", 6);
        asks(x, "often not not not not not (1)=1 or not not not not not 1=(1)", 0);
    }
}
