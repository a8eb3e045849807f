import java.lang.reflect.Constructor;
import java.lang.reflect.Field;
import java.lang.reflect.Method;
import java.lang.reflect.Modifier;
import java.util.Random;
import java.util.Set;
import java.util.TreeSet;

/** All promises: the face is the document's, and no call fails, whatever its arguments are. */
public final class AnyCallTest {
    private static final Check CHECK = new Check("AnyCallTest");
    private static final String[] FACE = {"int feed(int,int,int,int,int)", "boolean end(int)", "int crown()",
        "int fault(int)", "int has(int)", "int letter(int,int,int)", "int province(int,int)", "int trick(int,int)",
        "int watcher(int,int)", "int sight(int,int)", "int kept(int,int)", "int best(int)", "int appears(int)",
        "int later(int,int)", "int curtain()", "int both(int)", "int drop(int)", "int count()", "int shows(int)",
        "int where(int)", "int watch(int)", "int seat(int)", "int show(int)", "boolean sit(int,int)",
        "boolean move(int,int,int)", "int years(int)", "int chance(int)", "boolean undo()", "boolean seed(int)",
        "long ask()", "int image()", "int octet(int)", "boolean on()", "int status(int)"};
    private static final int[] EDGES = {0, 1, 2, 3, 5, 6, 7, 9, 10, 20, 60, 61, 63, 64, 99, 100, 101, 512, 999, 1000,
        1600, 9999, 10000, -1, -2, -64, Integer.MAX_VALUE, Integer.MIN_VALUE};

    public static void main(String[] args) throws ReflectiveOperationException {
        face();
        calls(new EmptyHat(), 1);
        calls(Check.crowned(Check.FAIR), 2);
        calls(Check.crowned("need 0 debt 0 rate 0;"), 3);
        calls(Check.crowned("need 1 debt 0 rate 0;watch a seat 0 glass 0;"), 4);
        calls(Check.crowned("need 1 debt 0 rate 0;stores a 1 yields 1;"), 5);
        calls(Check.crowned("need 1 debt 0 rate 0;stores a 1 yields 1;trick b takes 1 from a look 0;boys 100;"), 6);
        longTexts();
        CHECK.finish();
    }

    private static void face() {
        Set<String> seen = new TreeSet<>();
        for (Method m : EmptyHat.class.getDeclaredMethods()) {
            if (!Modifier.isPrivate(m.getModifiers())) {
                StringBuilder b = new StringBuilder(m.getReturnType() + " " + m.getName() + "(");
                for (Class<?> c : m.getParameterTypes()) {
                    b.append(b.charAt(b.length() - 1) == '(' ? "" : ",").append(c);
                }
                seen.add(b + ")");
                CHECK.due("public " + m, Modifier.isPublic(m.getModifiers()), true);
            }
        }
        CHECK.due("the methods are the document's " + seen, seen.equals(new TreeSet<>(Set.of(FACE))), true);
        for (Field f : EmptyHat.class.getDeclaredFields()) {
            boolean told = f.getName().equals("NONE") || f.getName().equals("NOTHING");
            CHECK.due("private " + f, Modifier.isPrivate(f.getModifiers()), !told);
        }
        Constructor<?>[] made = EmptyHat.class.getDeclaredConstructors();
        CHECK.due("constructors", made.length, 1);
        CHECK.due("public final", EmptyHat.class.getModifiers(), Modifier.PUBLIC | Modifier.FINAL);
        for (Class<?> c : EmptyHat.class.getDeclaredClasses()) {
            CHECK.due("static " + c, Modifier.isStatic(c.getModifiers()), true);
        }
    }

    /** Random calls with arguments at all edges; what a call throws ends the test. */
    private static void calls(EmptyHat x, int seed) throws ReflectiveOperationException {
        Random random = new Random(seed);
        Method[] all = EmptyHat.class.getDeclaredMethods();
        for (int i = 0; i < 20000; i++) {
            Method m = all[random.nextInt(all.length)];
            if (!Modifier.isPublic(m.getModifiers())) {
                continue;
            }
            Object[] row = new Object[m.getParameterCount()];
            for (int k = 0; k < row.length; k++) {
                row[k] = random.nextInt(4) == 0 ? EDGES[random.nextInt(EDGES.length)] : random.nextInt(8);
            }
            m.invoke(x, row);
        }
        CHECK.due("status(6)", x.status(6), -1);
    }

    /** Texts that fill the tape. */
    private static void longTexts() {
        String head = "need 1 debt 0 rate 0;stores a 1 yields 1;trick b takes 1 from a look 1;watch c seat 1 glass 1;"
            + "sees 1";
        String sum = head + "+1".repeat((1599 - head.length()) / 2);
        sum += sum.length() == 1598 ? " ;" : ";";
        EmptyHat x = Check.crowned(sum);
        CHECK.due("length", sum.length() >= 1599, true);
        CHECK.due("a sum of hundreds", x.sight(0, 0), 99);
        CHECK.due("total of ones", Check.ask(x, "total 1" + "+1".repeat(796)), 797);
        CHECK.due("a test of hundreds", Check.ask(x, "often 1=1" + " or 1=2".repeat(220)), 1);
        CHECK.due("letters alone", Check.crown(x, "a".repeat(1600)), -1);
        CHECK.due("their place", x.fault(1), 0);
        CHECK.due("digits alone", Check.ask(x, "total " + "9".repeat(1594)), EmptyHat.NOTHING);
        CHECK.due("their place", x.fault(1), 10);
        CHECK.due("blanks alone", Check.crown(x, " ".repeat(1600)), -1);
        CHECK.due("their place", x.fault(1), 1600);
        CHECK.due("brackets alone", Check.ask(x, "often " + "[".repeat(1594)), EmptyHat.NOTHING);
        CHECK.due("their fault", x.fault(0), 4);
        CHECK.due("their place", x.fault(1), 12);
        CHECK.due("the crown stays", x.sight(0, 0), 99);
    }
}
