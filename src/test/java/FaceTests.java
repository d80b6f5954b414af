import java.lang.reflect.Constructor;
import java.lang.reflect.Field;
import java.lang.reflect.Member;
import java.lang.reflect.Method;
import java.lang.reflect.Modifier;
import java.util.ArrayList;
import java.util.Arrays;
import java.util.List;
import java.util.Set;
import java.util.TreeSet;

/** The face is the document's, and the class keeps those rules of LANGUAGE.md that can be seen from outside. */
public final class FaceTests {
    private static final String[] FACE = {
        "int addField(int) IllegalArgumentException UnsupportedOperationException",
        "int setShield(int,int) IndexOutOfBoundsException IllegalArgumentException",
        "int addPath(int,int,int,int) IndexOutOfBoundsException IllegalArgumentException"
            + " UnsupportedOperationException",
        "int setGust(int,int) IndexOutOfBoundsException IllegalArgumentException",
        "int setBlocked(int,boolean) IndexOutOfBoundsException UnsupportedOperationException",
        "int fieldCount()",
        "int pathCount()",
        "int shieldOf(int) IndexOutOfBoundsException",
        "int firstOf(int) IndexOutOfBoundsException",
        "int secondOf(int) IndexOutOfBoundsException",
        "int costOf(int) IndexOutOfBoundsException",
        "int gustOf(int) IndexOutOfBoundsException",
        "boolean isBlocked(int) IndexOutOfBoundsException",
        "int groupCount()",
        "boolean isConnected(int,int) IndexOutOfBoundsException",
        "int wayCost(int,int) IndexOutOfBoundsException NoSuchElementException",
        "int wayCostByRounds(int,int) IndexOutOfBoundsException NoSuchElementException",
        "int disjointWays(int,int) IndexOutOfBoundsException IllegalArgumentException",
        "int smallestCut(int,int) IndexOutOfBoundsException IllegalArgumentException",
        "boolean isBridge(int) IndexOutOfBoundsException",
        "int bridgeCount()",
        "int bridgeCountByBlocking()",
        "int treeCost(int) IndexOutOfBoundsException",
        "int treeCostByGrowing(int) IndexOutOfBoundsException",
        "boolean isInTree(int,int) IndexOutOfBoundsException",
        "int parentIn(int,int) IndexOutOfBoundsException NoSuchElementException",
        "float reachChance(int,int) IndexOutOfBoundsException NoSuchElementException",
        "int setSeed(int) IllegalArgumentException",
        "int startBroadcast(int,int,boolean) IndexOutOfBoundsException IllegalArgumentException"
            + " UnsupportedOperationException",
        "int wind() UnsupportedOperationException",
        "int windUntilEnd() UnsupportedOperationException",
        "int abort() UnsupportedOperationException",
        "boolean isBroadcasting()",
        "int source() NoSuchElementException",
        "boolean hasPacket(int,int) IndexOutOfBoundsException NoSuchElementException",
        "int packetsOf(int) IndexOutOfBoundsException",
        "boolean isCovered(int) IndexOutOfBoundsException NoSuchElementException",
        "int coveredCount()",
        "int windsLeft() NoSuchElementException",
        "int energyLeft() NoSuchElementException",
        "int sentCount()",
        "int lostCount()",
        "int rebuiltCount()",
        "int energy()",
        "int finishedCount()",
        "int failedCount()",
        "int useOf(int) IndexOutOfBoundsException",
        "int fieldByPackets(int) NoSuchElementException",
        "int pathByUse(int) NoSuchElementException",
        "double meanEnergy() ArithmeticException",
        "float lossShare() ArithmeticException",
        "int lossBits() ArithmeticException",
        "boolean isConsistent()",
        "int writeField(int) IndexOutOfBoundsException",
        "char outputAt(int) IndexOutOfBoundsException",
        "int appendInput(char) IllegalArgumentException IllegalStateException",
        "int execute() IllegalArgumentException IllegalStateException UnsupportedOperationException",
        "int syntaxErrorOffset() NoSuchElementException",
        "int rejectionReason() NoSuchElementException",
        "int rejectionDetail() NoSuchElementException",
        "int causeReason() NoSuchElementException",
        "int undo() IllegalStateException",
        "int saveSnapshot()",
        "int restoreSnapshot() IllegalStateException"};
    private static final String[] CONSTANTS = {"FIELD_LIMIT 1", "PATH_LIMIT 2", "SAME_PATH 3", "NO_CHANGE 4",
        "BROADCASTING 5", "NO_BROADCAST 6", "COMMAND_REJECTED 7"};

    private static int wrong = 0;

    public static void main(String[] args) throws IllegalAccessException {
        Class<?> face = DandelionBroadcast.class;
        require(Modifier.isFinal(face.getModifiers()) && Modifier.isPublic(face.getModifiers()), "public and final");
        require(face.getInterfaces().length == 0 && face.getSuperclass() == Object.class, "no other kinds");
        same("constants", new TreeSet<>(Arrays.asList(CONSTANTS)), constants(face));
        same("methods", new TreeSet<>(Arrays.asList(FACE)), methods(face));
        Constructor<?>[] constructors = face.getDeclaredConstructors();
        require(constructors.length == 1 && constructors[0].getParameterCount() == 0
            && Modifier.isPublic(constructors[0].getModifiers()), "one public constructor");
        keepToTheRules(face);
        System.out.println(wrong == 0 ? "the face is the document's" : wrong + " things differ");
        if (wrong != 0) {
            System.exit(1);
        }
    }

    private static void require(boolean holds, String what) {
        if (!holds) {
            wrong++;
            System.out.println("does not hold: " + what);
        }
    }

    private static void same(String what, Set<String> want, Set<String> got) {
        require(want.equals(got), what + " " + got + ", due are " + want);
    }

    private static Set<String> constants(Class<?> face) throws IllegalAccessException {
        Set<String> found = new TreeSet<>();
        for (Field field : face.getDeclaredFields()) {
            if (!Modifier.isPrivate(field.getModifiers())) {
                require(Modifier.isStatic(field.getModifiers()) && Modifier.isFinal(field.getModifiers())
                    && Modifier.isPublic(field.getModifiers()), field + " is a public constant");
                found.add(field.getName() + " " + field.get(null));
            }
        }
        return found;
    }

    private static Set<String> methods(Class<?> face) {
        Set<String> found = new TreeSet<>();
        for (Method method : face.getDeclaredMethods()) {
            if (!Modifier.isPrivate(method.getModifiers()) && !method.isSynthetic()) {
                require(Modifier.isPublic(method.getModifiers()), method + " is public");
                StringBuilder text = new StringBuilder(method.getReturnType().getName());
                List<String> kinds = new ArrayList<>();
                for (Class<?> kind : method.getParameterTypes()) {
                    kinds.add(kind.getName());
                }
                text.append(' ').append(method.getName()).append('(').append(String.join(",", kinds)).append(')');
                for (Class<?> kind : method.getExceptionTypes()) {
                    text.append(' ').append(kind.getSimpleName());
                }
                found.add(text.toString());
            }
        }
        return found;
    }

    private static void keepToTheRules(Class<?> face) {
        Set<String> names = new TreeSet<>();
        for (String line : FACE) {
            names.add(line.substring(line.indexOf(' ') + 1, line.indexOf('(')));
        }
        List<Class<?>> classes = new ArrayList<>(List.of(face));
        for (Class<?> inside : face.getDeclaredClasses()) {
            require(Modifier.isStatic(inside.getModifiers()), inside + " is static");
            require(!Modifier.isPublic(inside.getModifiers()) && !Modifier.isProtected(inside.getModifiers()),
                inside + " is private or package-visible");
            classes.add(inside);
        }
        require(classes.size() <= 12, "at most twelve classes");
        for (Class<?> one : classes) {
            int fields = 0;
            for (Field field : one.getDeclaredFields()) {
                boolean fixed = Modifier.isStatic(field.getModifiers());
                require(!fixed || Modifier.isFinal(field.getModifiers()), field + " is final");
                fields += fixed ? 0 : 1;
            }
            require(fields <= 20, one + " has at most twenty fields");
            for (Method method : one.getDeclaredMethods()) {
                require(method.getParameterCount() <= 7, method + " has at most seven parameters");
                require(isOfTheFace(face, method) || !names.contains(method.getName()), method + " has a name of its own");
            }
        }
    }

    private static boolean isOfTheFace(Class<?> face, Member method) {
        return method.getDeclaringClass() == face && Modifier.isPublic(method.getModifiers());
    }
}
