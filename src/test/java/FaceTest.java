import java.lang.reflect.Constructor;
import java.lang.reflect.Field;
import java.lang.reflect.Method;
import java.lang.reflect.Modifier;
import java.util.Arrays;
import java.util.HashSet;
import java.util.List;
import java.util.Set;
import java.util.TreeSet;
import java.util.stream.Collectors;

/** The public face: every constant, the constructor, every method with its exception, and nothing else. */
public final class FaceTest {
    private static final String[] CONSTANTS = {"LENGTH = 0", "GUARD = 1", "REFERENCE = 2", "PREAMBLE = 3",
        "LEVEL = 4", "STEP = 5", "GAIN = 6", "WAITING = 0", "ACTIVE = 1", "ENDED = 2", "NOT_FOUND = -1",
        "BAD_VALUE = -2", "FULL = -3", "SYNTAX_ERROR = -11", "RANGE_ERROR = -12", "NAME_ERROR = -13",
        "DUPLICATE_ERROR = -14", "ORDER_ERROR = -15", "COUNT_ERROR = -16"};
    private static final String[] METHODS = {
        "int feed(int,int,int,int,int)",
        "int load(int)",
        "int errorPosition()",
        "int stationCount()",
        "int callCount()",
        "int carrierCount()",
        "int undoCount()",
        "int stationNamed(int)",
        "int now()",
        "int getSetting(int)",
        "int fade(int,int) throws IndexOutOfBoundsException",
        "int power(int) throws IndexOutOfBoundsException",
        "int timingError(int) throws IndexOutOfBoundsException",
        "int roundTrip(int) throws IndexOutOfBoundsException",
        "int timingFaults(int) throws IndexOutOfBoundsException",
        "int stateOf(int) throws IndexOutOfBoundsException",
        "int senderOf(int) throws IndexOutOfBoundsException",
        "int receiverOf(int) throws IndexOutOfBoundsException",
        "int carrierOf(int) throws IndexOutOfBoundsException",
        "int startOf(int) throws IndexOutOfBoundsException",
        "int burstOf(int) throws IndexOutOfBoundsException",
        "int sendOffset(int) throws IndexOutOfBoundsException",
        "int endOf(int) throws IndexOutOfBoundsException",
        "int waitOf(int) throws IndexOutOfBoundsException",
        "int marginOf(int) throws IndexOutOfBoundsException",
        "int degradedFrames(int) throws IndexOutOfBoundsException",
        "int queuedAt(int)",
        "int queueLength()",
        "int callsOn(int) throws IndexOutOfBoundsException",
        "int usedSymbols(int) throws IndexOutOfBoundsException",
        "int callAt(int,int) throws IndexOutOfBoundsException",
        "int longestFit(int) throws IndexOutOfBoundsException",
        "int nextEnd()",
        "boolean fitsWithout(int,int) throws IndexOutOfBoundsException",
        "int callsToDrop(int) throws IndexOutOfBoundsException",
        "int carriersNeeded()",
        "int clearFrame(int) throws IndexOutOfBoundsException",
        "int request(int,int,int,int,int)",
        "int release(int)",
        "int advance(int)",
        "int setSetting(int,int)",
        "boolean acquire(int)",
        "int compact()",
        "int undo()",
        "int callOver(int,int) throws IndexOutOfBoundsException",
        "int earliestStart(int,int) throws IndexOutOfBoundsException",
        "int conflicts(int) throws IndexOutOfBoundsException",
        "int busiestStation()",
        "int loadOf(int) throws IndexOutOfBoundsException",
        "int errorAfter(int,int) throws IndexOutOfBoundsException",
        "int powerAfter(int,int) throws IndexOutOfBoundsException",
        "int framesInTime(int) throws IndexOutOfBoundsException",
        "int degradedNow()",
        "int framesToWait(int) throws IndexOutOfBoundsException",
        "int priorityOf(int) throws IndexOutOfBoundsException",
    };

    private FaceTest() {
    }

    public static void main(String[] args) throws Exception {
        Class<?> face = SatelliteExchange.class;
        Check.that("public final", Modifier.isPublic(face.getModifiers()) && Modifier.isFinal(face.getModifiers()));
        alike("constants", CONSTANTS, constants(face));
        alike("methods", METHODS, methods(face));
        Constructor<?>[] constructors = face.getDeclaredConstructors();
        Check.due("constructors", 1, constructors.length);
        Check.that("a public constructor without parameters",
                Modifier.isPublic(constructors[0].getModifiers()) && constructors[0].getParameterCount() == 0);
        classesInside(face);
        Check.end();
    }

    private static void alike(String what, String[] due, List<String> found) {
        Check.that(what + " " + found + " as the document has them",
                new TreeSet<>(Arrays.asList(due)).equals(new TreeSet<>(found)));
    }

    private static List<String> constants(Class<?> face) throws Exception {
        List<String> found = new java.util.ArrayList<>();
        for (Field field : face.getDeclaredFields()) {
            int m = field.getModifiers();
            if (!Modifier.isPrivate(m)) {
                Check.that(field + " is a public constant", Modifier.isPublic(m) && Modifier.isStatic(m)
                        && Modifier.isFinal(m) && field.getType() == int.class);
                found.add(field.getName() + " = " + field.get(null));
            }
        }
        return found;
    }

    private static List<String> methods(Class<?> face) {
        return Arrays.stream(face.getDeclaredMethods())
                .filter(m -> !Modifier.isPrivate(m.getModifiers()) && !m.isSynthetic())
                .map(FaceTest::signature).collect(Collectors.toList());
    }

    private static String signature(Method m) {
        Check.that(m + " is public and no static one",
                Modifier.isPublic(m.getModifiers()) && !Modifier.isStatic(m.getModifiers()));
        String types = Arrays.stream(m.getParameterTypes()).map(Class::getSimpleName).collect(Collectors.joining(","));
        String thrown = Arrays.stream(m.getExceptionTypes()).map(t -> " throws " + t.getSimpleName())
                .collect(Collectors.joining());
        return m.getReturnType().getSimpleName() + " " + m.getName() + "(" + types + ")" + thrown;
    }

    private static void classesInside(Class<?> face) {
        Set<String> names = new HashSet<>(Arrays.stream(METHODS).map(m -> m.replaceAll(".* (\\w+)\\(.*", "$1")).toList());
        Check.due("names of methods", METHODS.length, names.size());
        Check.that("some twelve classes", face.getDeclaredClasses().length < 12);
        for (Method m : face.getDeclaredMethods()) {
            Check.that(m + " has no public name", !Modifier.isPrivate(m.getModifiers()) || !names.contains(m.getName()));
        }
        for (Class<?> inside : face.getDeclaredClasses()) {
            Check.that(inside + " is private or package-visible and static", Modifier.isStatic(inside.getModifiers())
                    && !Modifier.isPublic(inside.getModifiers()) && !Modifier.isProtected(inside.getModifiers()));
            for (Method m : inside.getDeclaredMethods()) {
                Check.that(m + " has no public name", !names.contains(m.getName()));
                Check.that(m + " has seven parameters at most", m.getParameterCount() <= 7);
            }
            Check.that(inside + " has some twenty fields", Arrays.stream(inside.getDeclaredFields())
                    .filter(f -> !Modifier.isStatic(f.getModifiers())).count() <= 20);
        }
    }
}
