import com.sun.management.ThreadMXBean;
import java.io.IOException;
import java.lang.management.ManagementFactory;
import java.lang.reflect.Constructor;
import java.lang.reflect.Field;
import java.lang.reflect.Method;
import java.lang.reflect.Modifier;
import java.nio.file.Files;
import java.nio.file.Path;
import java.util.Set;
import java.util.TreeSet;

/** The face of the document, and what a call makes; RulesTest has the rules of the source. Started in the project's folder. */
public final class FaceTest {
    private static final Check c = new Check();

    private static final Set<String> FACE = Set.of(
        "set(int,int)", "track(int)", "wagon(int,int)", "block(int,int)", "pull(int,int)", "push(int,int)", "round()",
        "pass(int)", "train(long,int)", "strike(int)", "leave(int)", "ofTrack(int,int)", "at(int,int)",
        "ofWagon(int,int)", "ofTrain(int,int)", "count(int)", "freeFrom(int)", "straight(int)", "pulls(int)",
        "wouldLeave(int)", "moves(int)", "roomFor()", "buried()", "put(long)", "wipe()", "fault()", "carryOut()",
        "undo()", "save(int)", "restore(int)");
    private static final String[] CONSTANTS = {
        "NO_SUCH", "BAD_VALUE", "BAD_TEXT", "TOO_MANY", "NOT_POSSIBLE", "NONE",
        "NECK", "LOOP", "MOVE", "COUPLE", "ROUND", "FINE",
    };
    private static final int[] VALUES = {-1, -2, -3, -4, -5, -6, 0, 1, 2, 3, 4, 5};

    public static void main(String[] args) throws IOException, IllegalAccessException, NoSuchFieldException {
        face();
        constants();
        classesInside();
        signs();
        callsMakeNoObjects();
        c.end("FaceTest");
    }

    private static String signature(Method method) {
        StringBuilder text = new StringBuilder(method.getName()).append('(');
        for (Class<?> type : method.getParameterTypes()) {
            text.append(text.charAt(text.length() - 1) == '(' ? "" : ",").append(type.getName());
        }
        return text.append(')').toString();
    }

    private static void face() {
        c.due("modifiers of the class", PickupYard.class.getModifiers(), Modifier.PUBLIC | Modifier.FINAL);
        Constructor<?>[] made = PickupYard.class.getDeclaredConstructors();
        c.due("constructors", made.length, 1);
        c.due("modifiers of the constructor", made[0].getModifiers(), Modifier.PUBLIC);
        c.due("its parameters", made[0].getParameterCount(), 0);
        Set<String> found = new TreeSet<>();
        for (Method method : PickupYard.class.getDeclaredMethods()) {
            if (!Modifier.isPrivate(method.getModifiers())) {
                found.add(signature(method));
                c.due("modifiers of " + method, method.getModifiers(), Modifier.PUBLIC);
                c.holds(method + " returns an int", method.getReturnType() == int.class);
            }
        }
        c.holds("the methods are those of the document: " + found, found.equals(FACE));
    }

    private static void constants() throws IllegalAccessException, NoSuchFieldException {
        int open = 0;
        for (Field field : PickupYard.class.getDeclaredFields()) {
            open += Modifier.isPrivate(field.getModifiers()) ? 0 : 1;
        }
        c.due("fields that are not private", open, CONSTANTS.length);
        for (int i = 0; i < CONSTANTS.length; i++) {
            Field field = PickupYard.class.getDeclaredField(CONSTANTS[i]);
            c.due("modifiers of " + field, field.getModifiers(), Modifier.PUBLIC | Modifier.STATIC | Modifier.FINAL);
            c.holds(field + " is an int", field.getType() == int.class);
            c.due(CONSTANTS[i], field.getInt(null), VALUES[i]);
        }
    }

    private static void classesInside() {
        Class<?>[] inside = PickupYard.class.getDeclaredClasses();
        aClass(PickupYard.class);
        for (Class<?> one : inside) {
            c.holds(one + " is static and not public", Modifier.isStatic(one.getModifiers())
                && !Modifier.isPublic(one.getModifiers()) && !Modifier.isProtected(one.getModifiers()));
            c.due("classes inside " + one, one.getDeclaredClasses().length, 0);
            aClass(one);
        }
    }

    private static void aClass(Class<?> one) {
        for (Method method : one.getDeclaredMethods()) {
            boolean ofTheFace = FACE.stream().anyMatch(name -> name.startsWith(method.getName() + "("));
            c.holds(method + " bears no name of a public one", ofTheFace == Modifier.isPublic(method.getModifiers()));
        }
    }

    private static void signs() throws IOException {
        String text = Files.readString(Path.of("src/main/java/PickupYard.java"));
        c.holds("signs are 1 to 127", text.chars().allMatch(sign -> sign > 0 && sign < 128));
    }

    private static void callsMakeNoObjects() {
        ThreadMXBean threads = (ThreadMXBean) ManagementFactory.getThreadMXBean();
        long most = 0;
        for (int turn = 0; turn < 3; turn++) {
            PickupYard x = Check.yard(8, 60);
            for (int i = 0; i < 30; i++) {
                x.wagon(i % 8, 1 + i % 2);
            }
            long before = threads.getCurrentThreadAllocatedBytes();
            useAll(x);
            most = threads.getCurrentThreadAllocatedBytes() - before;
        }
        c.holds("a run of calls makes next to no objects: " + most + " bytes", most < 4096);
    }

    private static void useAll(PickupYard x) {
        for (int i = 0; i < 12; i++) {
            x.set(0, 60);
            x.train(1 + i + 31 * (2 + i), x.count(0) + 50);
            x.block(x.count(0) + 3, 4);
            x.pull(i % 8, 2);
            x.round();
            x.push((i + 3) % 8, 1);
            x.pass(2);
            x.straight(0);
            x.pulls(0);
            x.wouldLeave(0);
            x.moves(0);
            x.roomFor();
            x.buried();
            x.put(0x7041323b7731L);
            x.fault();
            x.carryOut();
            x.leave(0);
            x.undo();
            x.save(i % 2);
            x.strike(0);
            x.restore(i % 2);
            x.wipe();
        }
    }
}
