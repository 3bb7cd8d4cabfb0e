import java.lang.reflect.Constructor;
import java.lang.reflect.Field;
import java.lang.reflect.InvocationTargetException;
import java.lang.reflect.Method;
import java.lang.reflect.Modifier;
import java.util.ArrayList;
import java.util.Arrays;
import java.util.List;
import java.util.NoSuchElementException;
import java.util.Random;
import java.util.TreeSet;

/** The public face is the document's, and whatever the arguments, nothing is thrown but where it says so. */
public final class FaceTest {
    private static final Check CHECK = new Check("FaceTest");
    private static final String[] FACE = {
        "ask:int:0", "book:int:1", "byteAt:int:1", "came:int:0", "count:int:1", "cream:int:1", "drawn:int:2",
        "end:boolean:1", "fault:int:0", "feed:int:5", "fold:int:2", "gather:int:1", "gatherAt:int:1", "hours:int:1",
        "image:boolean:1", "inns:int:1", "innsAt:int:0", "learn:int:2", "mean:int:2", "meet:int:2", "meetAt:int:0",
        "mood:int:1", "now:int:1", "odds:int:3", "reaches:int:1", "rest:int:1", "restore:boolean:1", "said:int:1",
        "sentence:int:0", "slip:int:2", "spot:int:2", "tag:int:1", "takes:int:2", "tell:int:2", "told:int:1",
        "undo:int:0", "valley:int:0", "walk:int:2", "walker:int:2", "way:int:2", "wayAt:int:1"};
    private static final int[] EDGES = {Integer.MIN_VALUE, -1001, -2, -1, 0, 1, 2, 3, 4, 5, 6, 7, 8, 9, 11, 12, 29, 30,
        31, 59, 60, 61, 99, 100, 400, 401, 939, 940, 941, 0x73706f74, Integer.MAX_VALUE};

    public static void main(String[] args) throws IllegalAccessException {
        face();
        for (int seed = 0; seed < 200; seed++) {
            neverThrows(new Random(seed));
        }
        CHECK.finish();
    }

    private static void face() {
        TreeSet<String> methods = new TreeSet<>();
        for (Method m : FoldRoads.class.getDeclaredMethods()) {
            if (!Modifier.isPrivate(m.getModifiers())) {
                CHECK.due(m.getName() + " is public and of the object", m.getModifiers(), Modifier.PUBLIC);
                methods.add(m.getName() + ":" + m.getReturnType() + ":" + m.getParameterCount());
                boolean throwing = m.getName().equals("walker") || m.getName().equals("mean");
                CHECK.due(m.getName() + " tells what it throws", Arrays.toString(m.getExceptionTypes()),
                        throwing ? "[class java.util.NoSuchElementException]" : "[]");
            }
        }
        CHECK.due("methods", methods.toString(), new TreeSet<>(Arrays.asList(FACE)).toString());
        TreeSet<String> fields = new TreeSet<>();
        for (Field f : FoldRoads.class.getDeclaredFields()) {
            if (!Modifier.isPrivate(f.getModifiers())) {
                fields.add(f.toString());
            }
        }
        CHECK.due("fields", fields.toString(), "[public static final int FoldRoads.NONE]");
        Constructor<?>[] constructors = FoldRoads.class.getDeclaredConstructors();
        CHECK.due("constructors", Arrays.toString(constructors), "[public FoldRoads()]");
        CHECK.due("class", FoldRoads.class.getModifiers(), Modifier.PUBLIC | Modifier.FINAL);
    }

    private static void neverThrows(Random random) throws IllegalAccessException {
        List<Method> methods = new ArrayList<>();
        for (Method m : FoldRoads.class.getDeclaredMethods()) {
            if (Modifier.isPublic(m.getModifiers())) {
                methods.add(m);
            }
        }
        methods.sort((a, b) -> a.getName().compareTo(b.getName()));
        FoldRoads x = random.nextInt(3) == 0 ? new FoldRoads() : Texts.of(Texts.FACE);
        for (int i = 0; i < 490; i++) {
            Method m = methods.get(random.nextInt(methods.size()));
            Object[] args = new Object[m.getParameterCount()];
            for (int k = 0; k < args.length; k++) {
                args[k] = random.nextInt(9) == 0 ? random.nextInt() : EDGES[random.nextInt(EDGES.length)];
            }
            try {
                m.invoke(x, args);
            } catch (InvocationTargetException e) {
                boolean told = e.getCause().getClass() == NoSuchElementException.class
                        && m.getExceptionTypes().length == 1;
                CHECK.due(m.getName() + Arrays.toString(args) + " throws " + e.getCause(), told, true);
            }
        }
    }
}
