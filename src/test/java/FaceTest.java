import java.lang.reflect.Method;
import java.lang.reflect.Modifier;
import java.util.Arrays;
import java.util.Set;
import java.util.TreeSet;

/** The public face, and what LANGUAGE.md says of it. */
public final class FaceTest {
    private static final Due DUE = new Due("FaceTest");

    public static void main(String[] args) {
        constants();
        signatures();
        nothingElseIsOpen();
        DUE.finish();
    }

    private static void constants() {
        DUE.is("INVALID_ARGUMENT", DisambiguationBench.INVALID_ARGUMENT, -1);
        DUE.is("INVALID_STATE", DisambiguationBench.INVALID_STATE, -2);
        DUE.is("LIMIT_REACHED", DisambiguationBench.LIMIT_REACHED, -3);
        DUE.is("NOT_FOUND", DisambiguationBench.NOT_FOUND, -4);
        DUE.is("OVERFLOW", DisambiguationBench.OVERFLOW, 1099511627776L);
        DUE.is("DIVISION_BY_ZERO", DisambiguationBench.DIVISION_BY_ZERO, 2199023255552L);
        DUE.is("NO_VALUE", DisambiguationBench.NO_VALUE, 4398046511104L);
        DUE.is("PRIORITY", DisambiguationBench.PRIORITY, 0);
        DUE.is("ASSOCIATIVITY", DisambiguationBench.ASSOCIATIVITY, 1);
        DUE.is("REJECT", DisambiguationBench.REJECT, 2);
        DUE.is("PREFER", DisambiguationBench.PREFER, 3);
        DUE.is("AVOID", DisambiguationBench.AVOID, 4);
    }

    private static void signatures() {
        String[] due = {
            "int append(int)", "int clearText()", "int syntaxError()", "int load()", "int addPriorityFilter(int)",
            "int addAssociativityFilter(int)", "int addRejectFilter(int,int,int,boolean)", "int addPreferFilter(int,int)",
            "int addAvoidFilter(int,int)", "int removeFilter(int)", "int swapFilters(int)", "int filterKind(int)",
            "int setVariable(int,int)", "int undo()", "int symbolOf(int)", "int priorityOf(int)", "int treeCount(int)",
            "int derivations(int,int,int,int)", "int orderMatters(int)", "int operatorAt(int,int,int)",
            "int discardedBy(int)", "int survivorRank(int,int)", "long value(int,int)", "int distinctValues(int)",
            "int operatorCount()", "int filterCount()", "int historySize()",
        };
        Set<String> found = new TreeSet<>();
        for (Method method : DisambiguationBench.class.getDeclaredMethods()) {
            if (Modifier.isPublic(method.getModifiers())) {
                found.add(signature(method));
            }
        }
        DUE.holds("the public methods are those of the document: " + found,
                found.equals(new TreeSet<>(Arrays.asList(due))));
        DUE.holds("the class is public and final",
                DisambiguationBench.class.getModifiers() == (Modifier.PUBLIC | Modifier.FINAL));
        DUE.is("number of public constructors", DisambiguationBench.class.getConstructors().length, 1);
        DUE.is("number of public fields", DisambiguationBench.class.getFields().length, 12);
    }

    private static String signature(Method method) {
        StringBuilder text = new StringBuilder(method.getReturnType() + " " + method.getName() + "(");
        for (Class<?> type : method.getParameterTypes()) {
            text.append(text.charAt(text.length() - 1) == '(' ? "" : ",").append(type);
        }
        return text.append(")").toString();
    }

    private static void nothingElseIsOpen() {
        Set<String> face = new TreeSet<>();
        for (Method method : DisambiguationBench.class.getDeclaredMethods()) {
            int modifiers = method.getModifiers();
            DUE.holds(method + " is public or private", Modifier.isPublic(modifiers) || Modifier.isPrivate(modifiers));
            if (Modifier.isPublic(modifiers)) {
                face.add(method.getName());
            }
        }
        for (Class<?> inside : DisambiguationBench.class.getDeclaredClasses()) {
            DUE.holds(inside + " is static", Modifier.isStatic(inside.getModifiers()));
            for (Method method : inside.getDeclaredMethods()) {
                DUE.holds(method + " has no name of the face", !face.contains(method.getName()));
            }
        }
    }
}
