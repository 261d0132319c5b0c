import java.lang.reflect.Constructor;
import java.lang.reflect.Field;
import java.lang.reflect.Method;
import java.lang.reflect.Modifier;
import java.util.Arrays;
import java.util.Set;
import java.util.TreeSet;

/** The face of the class: exactly the document's members, each with the exceptions that the document names. */
public final class FaceTest {
    private static final Checks CHECK = new Checks("FaceTest");
    private static final String INDEX = " IndexOutOfBoundsException";
    private static final String ARGUMENT = " IllegalArgumentException";
    private static final String STATE = " IllegalStateException";
    private static final String ELEMENT = " NoSuchElementException";
    private static final String MEAN = " ArithmeticException";
    private static final String UNSUPPORTED = " UnsupportedOperationException";

    private static final String[] FACE = {
        "int addGear(int)" + ARGUMENT + STATE,
        "int mesh(int,int,int)" + INDEX + ARGUMENT + STATE,
        "int part(int,int)" + INDEX + ELEMENT,
        "int turn(int,int)" + INDEX + ARGUMENT,
        "int gearCount()",
        "int teeth(int)" + INDEX,
        "int position(int)" + INDEX,
        "int meshCount()",
        "boolean doMesh(int,int)" + INDEX,
        "int slack(int,int)" + INDEX + ELEMENT,
        "int gap(int,int)" + INDEX + ELEMENT,
        "boolean areConnected(int,int)" + INDEX,
        "int trainSize(int)" + INDEX,
        "int trainCount()",
        "int trainCountByUnions()",
        "int turnedTeeth()",
        "int ratioNumerator(int,int)" + INDEX + ELEMENT,
        "int ratioDenominator(int,int)" + INDEX + ELEMENT,
        "int ratioNumeratorByChain(int,int)" + INDEX + ELEMENT,
        "int freePlay(int,int)" + INDEX + ELEMENT,
        "int freePlayByTurning(int,int)" + INDEX + ELEMENT,
        "int addWheel(int,int)" + INDEX + ARGUMENT + STATE,
        "int wheelCount()",
        "int gearOf(int)" + INDEX,
        "int spokeDirection(int,int)" + INDEX + ARGUMENT,
        "int nearestSpoke(int,int)" + INDEX + ELEMENT,
        "int distanceToStar(int,int)" + INDEX + ELEMENT,
        "int teethToFollow(int,int)" + INDEX + ELEMENT,
        "int follow(int,int)" + INDEX + ELEMENT,
        "int addStar(int,int)" + ARGUMENT + STATE,
        "int removeStar(int)" + ELEMENT,
        "int starCount()",
        "int star(int)" + INDEX,
        "int direction(int)" + ELEMENT,
        "int passHours(int)" + ARGUMENT,
        "int directionAfter(int,int)" + ELEMENT + ARGUMENT,
        "int directionAfterAtOnce(int,int)" + ELEMENT + ARGUMENT,
        "int nearestStar(int)" + ARGUMENT + ELEMENT,
        "int catalogue(char,int)" + ARGUMENT + STATE,
        "int forget(char,int)" + ARGUMENT + ELEMENT,
        "boolean isCatalogued(char,int)" + ARGUMENT,
        "int entryPosition(char,int,int)" + ARGUMENT + ELEMENT,
        "int changedSince(char,int)" + ARGUMENT + ELEMENT,
        "double meanTeeth()" + MEAN,
        "float alignedFraction(int)" + ARGUMENT + MEAN,
        "int writeGear(int)" + INDEX,
        "char outputCharacter(int)" + INDEX,
        "boolean isConsistent()",
        "int feed(char)" + STATE,
        "int execute()" + ARGUMENT + UNSUPPORTED,
        "int errorPosition()" + ELEMENT,
        "int failedCommand()" + ELEMENT,
        "int undo()" + STATE,
        "int undoCount()",
        "int save()",
        "int restore()" + STATE,
    };

    public static void main(String[] args) {
        Class<?> face = GearObservatory.class;
        CHECK.same("modifiers of the class", face.getModifiers(), Modifier.PUBLIC | Modifier.FINAL);
        constructors(face);
        methods(face);
        for (Field field : face.getDeclaredFields()) {
            CHECK.yes(field + " is private", Modifier.isPrivate(field.getModifiers()));
            CHECK.yes(field + ": static fields are final", isFinalWhereStatic(field));
        }
        for (Class<?> inside : face.getDeclaredClasses()) {
            classInside(inside);
        }
        CHECK.end();
    }

    private static void constructors(Class<?> face) {
        Constructor<?>[] constructors = face.getDeclaredConstructors();
        CHECK.same("number of constructors", constructors.length, 1);
        CHECK.same("parameters of the constructor", constructors[0].getParameterCount(), 0);
        CHECK.yes("the constructor is public", Modifier.isPublic(constructors[0].getModifiers()));
    }

    private static void methods(Class<?> face) {
        Set<String> due = new TreeSet<>(Arrays.asList(FACE));
        Set<String> got = new TreeSet<>();
        Set<String> publicNames = new TreeSet<>();
        for (Method method : face.getDeclaredMethods()) {
            if (Modifier.isPrivate(method.getModifiers())) {
                continue;
            }
            CHECK.same("modifiers of " + method, method.getModifiers(), Modifier.PUBLIC);
            got.add(signature(method));
            publicNames.add(method.getName());
        }
        for (String signature : due) {
            CHECK.yes("the face has " + signature, got.contains(signature));
        }
        for (String signature : got) {
            CHECK.yes("the document has " + signature, due.contains(signature));
        }
        for (Method method : face.getDeclaredMethods()) {
            if (Modifier.isPrivate(method.getModifiers())) {
                CHECK.no("private " + method + " bears a public name", publicNames.contains(method.getName()));
            }
        }
    }

    private static String signature(Method method) {
        StringBuilder text = new StringBuilder(method.getReturnType().getName());
        text.append(' ').append(method.getName()).append('(');
        String comma = "";
        for (Class<?> type : method.getParameterTypes()) {
            text.append(comma).append(type.getName());
            comma = ",";
        }
        text.append(')');
        for (Class<?> type : method.getExceptionTypes()) {
            text.append(' ').append(type.getSimpleName());
        }
        return text.toString();
    }

    private static void classInside(Class<?> inside) {
        int modifiers = inside.getModifiers();
        CHECK.yes(inside + " is static", Modifier.isStatic(modifiers));
        CHECK.no(inside + " is public", Modifier.isPublic(modifiers) || Modifier.isProtected(modifiers));
        for (Field field : inside.getDeclaredFields()) {
            CHECK.yes(field + ": static fields are final", isFinalWhereStatic(field));
        }
        for (Method method : inside.getDeclaredMethods()) {
            for (String signature : FACE) {
                CHECK.no(method + " bears a public name", signature.contains(" " + method.getName() + "("));
            }
        }
        CHECK.yes(inside + " has some twenty fields at the most", inside.getDeclaredFields().length <= 20);
    }

    private static boolean isFinalWhereStatic(Field field) {
        return !Modifier.isStatic(field.getModifiers()) || Modifier.isFinal(field.getModifiers());
    }
}
