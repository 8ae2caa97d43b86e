import java.lang.reflect.Field;
import java.lang.reflect.Method;
import java.lang.reflect.Modifier;
import java.util.ArrayList;
import java.util.Arrays;
import java.util.List;

/** The sentences ahead of the promises and behind them: what it is, the public face, the sum of it, what is not promised. */
final class EdgeFace extends Desk {
    private static final String FACE = "The public face";
    private static final String SIGNATURE = "(public )?(int|long|boolean) (\\w+)\\(([^)]*)\\);?";

    private EdgeFace() {
    }

    static void run() {
        whatItIs();
        theFace();
        theSumOfIt();
        theParts();
        thePromises();
        notPromised();
    }

    // ---- what it is

    private static void whatItIs() {
        sentence("", "# CarbonMinistry");
        due("the class by that name", CarbonMinistry.class.getName().equals("CarbonMinistry"), true);
        sentence("What it is", "## What it is Carbon copies go down to the person below: a ministry told as a text, "
            + "officers by their shape and how they press, feelings, carbons from one to another by their sheets, what is felt, "
            + "how much of it comes through a carbon, how much stays, who acts on what, by a small language.");
        CarbonMinistry x = of("officer upper shape 4 press 2;officer lower shape 6 press 1;feeling awe;"
            + "carbon upper to lower sheets 3;felt awe of upper is 49;passes strength-sheets*press-shape;fades feel-shape;"
            + "acts feel>40 and shape=6;");
        due("an officer's shape", x.officer(1, 0), 6);
        due("how he presses", x.officer(0, 1), 2);
        due("a feeling's letter", x.letter(1, 0, 1), 23);
        due("a carbon's first", x.carbon(0, 0), 0);
        due("a carbon's second", x.carbon(0, 1), 1);
        due("its sheets", x.carbon(0, 2), 3);
        due("what is felt", x.feels(0, 0), 49);
        due("how much comes through", x.passes(0, 0), 49 - 3 - 6);
        due("how much stays", x.later(0, 0, 1), 49 - 4);
        due("nobody acts by 40", x.days(1), 0);
        x.put(1, 0, 48);
        due("one acts", x.days(1), 1);
        due("on what", x.kept(0, 1) * 10 + x.kept(0, 2), 10);
    }

    // ---- the face

    private static void theFace() {
        sentence(FACE, "## The public face public final class CarbonMinistry {");
        int how = CarbonMinistry.class.getModifiers();
        due("public and final", Modifier.isPublic(how) && Modifier.isFinal(how), true);
        due("no class above it", CarbonMinistry.class.getSuperclass() == Object.class, true);
        due("no interfaces", CarbonMinistry.class.getInterfaces().length, 0);

        sentence(FACE, "public static final int NONE = -1;");
        due("NONE", isConstant("NONE", int.class, -1), true);
        sentence(FACE, "public static final long NOTHING = -1000000000000000L;");
        due("NOTHING", isConstant("NOTHING", long.class, -1000000000000000L), true);
        int constants = 0;
        for (Field f : CarbonMinistry.class.getDeclaredFields()) {
            constants += Modifier.isPrivate(f.getModifiers()) ? 0 : 1;
        }
        due("constants", constants, 2);

        sentence(FACE, "public CarbonMinistry();");
        due("constructors", CarbonMinistry.class.getDeclaredConstructors().length, 1);
        due("public ones without arguments", constructors(), 1);

        List<String> told = new ArrayList<>();
        for (String signature : found(FACE, "public (int|long|boolean) \\w+\\([^)]*\\);")) {
            sentence(FACE, signature);
            told.add(signature);
            due(signature, isMethod(signature), true);
        }
        due("methods told", told.size(), 33);
        int open = 0;
        for (Method m : CarbonMinistry.class.getDeclaredMethods()) {
            open += Modifier.isPrivate(m.getModifiers()) ? 0 : 1;
        }
        due("methods not private", open, 33);
    }

    private static int constructors() {
        int open = 0;
        for (var made : CarbonMinistry.class.getConstructors()) {
            open += made.getParameterCount() == 0 && made.getExceptionTypes().length == 0 ? 1 : 0;
        }
        return open;
    }

    private static boolean isConstant(String name, Class<?> type, long value) {
        try {
            Field f = CarbonMinistry.class.getField(name);
            int m = f.getModifiers();
            return Modifier.isStatic(m) && Modifier.isFinal(m) && f.getType() == type && f.getLong(null) == value;
        } catch (ReflectiveOperationException e) {
            return false;
        }
    }

    /** Whether the class has the public method that words such as 'public int end(int n);' tell. */
    private static boolean isMethod(String signature) {
        String name = signature.replaceAll(SIGNATURE, "$3");
        String[] arguments = signature.replaceAll(SIGNATURE, "$4").split(", ");
        int many = arguments[0].isEmpty() ? 0 : arguments.length;
        for (Method m : CarbonMinistry.class.getDeclaredMethods()) {
            if (m.getName().equals(name) && m.getParameterCount() == many) {
                boolean same = m.getReturnType().getName().equals(signature.replaceAll(SIGNATURE, "$2"));
                for (int k = 0; k < many; k++) {
                    same &= arguments[k].startsWith(m.getParameterTypes()[k].getName() + " ");
                }
                int how = m.getModifiers();
                return same && Modifier.isPublic(how) && !Modifier.isStatic(how) && m.getExceptionTypes().length == 0;
            }
        }
        return false;
    }

    // ---- the sum of it

    private static void theSumOfIt() {
        CarbonMinistry x = of(OFFICE);
        sentence("Terms", "## Terms Day by day all that is felt comes through the carbons at once, fades, is acted on;");
        due("comes through", x.later(1, 0, 1), 32);
        due("at once", x.later(2, 0, 1), 12);
        due("fades", x.later(0, 0, 1), 20);
        due("is acted on", x.acted(1), 1);
        sentence("Terms", "who feels what when, when all is settled, who feels most,");
        due("who feels what when", x.later(2, 0, 3), 14);
        due("when all is settled", x.settles(), 7);
        due("who feels most", x.strongest(0, 3), 2);
        sentence("Terms", "the fewest carbons to be turned so that one feels enough, how few carbons lead from one to another, "
            + "the fewest to be pulled so that none does,");
        due("to be turned", x.turning(1, 1, 5, 1), 2);
        due("how few lead", x.steps(0, 2), 1);
        due("to be pulled", x.cutting(0, 2), 2);
        sentence("Terms", "who felt it first and how strongly by what was found, the day and the officer that tell most;");
        discover(x, 1, 2, 12, 1, 1, 32);
        due("who felt it first, one of", x.sources(0, NONE), 2);
        due("who, and how strongly", x.sources(0, 1), 61);
        due("the day that tells most", x.tells(0, 0), 1);
        due("the officer that tells most", x.tells(0, 1), 0);
        sentence("Terms", "feelings put through, carbons turned and pulled, days by a seed with slips;");
        due("a feeling put through", x.put(1, 1, 70), true);
        due("a carbon turned", x.turn(0, 1), true);
        due("a carbon pulled", x.pull(2, 0), true);
        due("slips", x.chance(1), 1);
        sentence("Terms", "questions of all officers; acts undone, images.");
        due("a question", ask(x, "total shape"), 11);
        for (int k = 0; k < 4; k++) {
            due("an act undone", x.undo(), true);
        }
        due("an image", x.image(), 15);
        due("its last byte", x.octet(14), 143);
    }

    /** The lines that part the calls: each call that is told there is one of the face, and told once. */
    private static void theParts() {
        String[][] parts = {{"ahead.", "later", "settles", "strongest", "acted"}, {"carbons.", "turning", "steps", "cutting"},
            {"who felt it first.", "discover", "sources", "tells"},
            {"acts.", "put", "turn", "pull", "days", "chance", "undo", "seed"}, {"questions.", "ask"},
            {"images, refusals.", "image", "octet", "on", "status"}};
        List<String> told = found(FACE, "public (int|long|boolean) \\w+\\([^)]*\\);");
        int next = told.size() - 22;
        for (String[] part : parts) {
            String calls = "`" + String.join("`, `", Arrays.asList(part).subList(1, part.length)) + "`";
            sentence("Terms", "Ahead of the calls " + calls + " the interface says: ---- " + part[0]);
            for (int k = 1; k < part.length; k++) {
                String signature = next < told.size() ? told.get(next) : "";
                due(part[k] + " is the next call of the face", signature.replaceAll(SIGNATURE, "$3").equals(part[k]), true);
                due(part[k] + " is a call of the class", isMethod(signature), true);
                next++;
            }
        }
    }

    // ---- the names of the promises, and what is free

    private static void thePromises() {
        sentence("Promise 1", "## Promise 1: A new object `CarbonMinistry()`:");
        due("a new object", new CarbonMinistry().has(0), 0);
        List<String> told = found(FACE, "public (int|long|boolean) \\w+\\([^)]*\\);");
        for (int n = 2; n <= 34 && n - 2 < told.size(); n++) {
            String signature = told.get(n - 2).replaceAll("public |;", "");
            sentence("Promise " + n, "## Promise " + n + ": " + signature.replaceAll(SIGNATURE, "$3") + " `" + signature + "`:");
            due(signature, isMethod(signature), true);
        }
    }

    private static void notPromised() {
        sentence("Not promised", "## Not promised How the state is held inside the object is free, as are the speed of each call, "
            + "the text of toString and the behaviour of equals and hashCode. Use of one object from several threads at once "
            + "is not promised to be safe.");
        // What is free of one object is not free of two: neither shows what is done with the other.
        CarbonMinistry x = of(OFFICE);
        CarbonMinistry y = of(OFFICE);
        x.days(3);
        x.turn(1, 1);
        discover(x, 0, 0, 7);
        ask(x, "x");
        x.seed(9);
        x.undo();
        x.undo();
        x.undo();
        put(x, "total 1");
        alike(NONE, "work on another object", y, of(OFFICE));

        sentence("Not promised", "Nothing is promised beyond the answers and state changes described above, "
            + "and nothing about an object after its 512th call.");
        due("objects made", new CarbonMinistry() != new CarbonMinistry(), true);
    }
}
