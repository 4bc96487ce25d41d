import java.lang.reflect.Array;
import java.lang.reflect.Field;
import java.lang.reflect.Member;
import java.lang.reflect.Method;
import java.lang.reflect.Modifier;
import java.util.ArrayDeque;
import java.util.Arrays;
import java.util.Deque;
import java.util.IdentityHashMap;
import java.util.Map;
import java.util.Random;
import java.util.TreeSet;

/** The public face is that of the document and no more, and what an object keeps stays small. */
public final class FaceTest {
    private static final String[] FACE = {
        "public boolean SproutTable.again(int)",
        "public boolean SproutTable.begin(int)",
        "public boolean SproutTable.image(int)",
        "public int SproutTable.best()",
        "public int SproutTable.corner(int,int,int)",
        "public int SproutTable.corners(int,int)",
        "public int SproutTable.count(int)",
        "public int SproutTable.join(int,int,int,int,int,int)",
        "public int SproutTable.lives(int)",
        "public int SproutTable.made(int,int)",
        "public int SproutTable.move(int)",
        "public int SproutTable.moves()",
        "public int SproutTable.nim()",
        "public int SproutTable.tell(int,int)",
        "public int SproutTable.undo()",
        "public int SproutTable.walls(int)",
    };
    private static final Due DUE = new Due();

    public static void main(String[] args) throws ReflectiveOperationException {
        face();
        nested();
        room();
        DUE.end();
    }

    private static void face() throws ReflectiveOperationException {
        Class<?> table = SproutTable.class;
        DUE.is("public", Modifier.isPublic(table.getModifiers()), true);
        DUE.is("final", Modifier.isFinal(table.getModifiers()), true);
        DUE.is("constructors", table.getDeclaredConstructors().length, 1);
        DUE.same("constructor", table.getDeclaredConstructor().toString(), "public SproutTable()");
        DUE.same("class above", table.getSuperclass().toString(), "class java.lang.Object");
        DUE.is("interfaces", table.getInterfaces().length, 0);
        DUE.is("package", table.getPackageName().isEmpty(), true);
        TreeSet<String> open = new TreeSet<>();
        TreeSet<String> names = new TreeSet<>();
        for (Method m : table.getDeclaredMethods()) {
            if (!Modifier.isPrivate(m.getModifiers())) {
                open.add(m.toString());
                names.add(m.getName());
            }
        }
        DUE.same("methods", String.join("; ", open), String.join("; ", FACE));
        for (Method m : table.getDeclaredMethods()) {
            if (Modifier.isPrivate(m.getModifiers())) {
                DUE.is("private " + m.getName(), names.contains(m.getName()), false);
            }
        }
        for (Field f : table.getDeclaredFields()) {
            DUE.is("field " + f.getName(), Modifier.isPrivate(f.getModifiers()), !f.getName().equals("NONE"));
        }
        DUE.same("constant", table.getDeclaredField("NONE").toString(), "public static final int SproutTable.NONE");
        DUE.is("NONE", SproutTable.NONE, -1);
    }

    private static void nested() {
        Class<?>[] inside = SproutTable.class.getDeclaredClasses();
        DUE.is("classes", inside.length + 1 <= 12, true);
        TreeSet<String> names = new TreeSet<>();
        for (Method m : SproutTable.class.getMethods()) {
            names.add(m.getName());
        }
        for (Class<?> c : inside) {
            DUE.is(c + " is static", Modifier.isStatic(c.getModifiers()), true);
            DUE.is(c + " is not public", Modifier.isPublic(c.getModifiers()), false);
            DUE.is(c + " fields", Arrays.stream(c.getDeclaredFields()).filter(f -> !isStatic(f)).count() <= 20, true);
            for (Method m : c.getDeclaredMethods()) {
                DUE.is(c + "." + m.getName() + " named anew", names.contains(m.getName()), false);
                DUE.is(c + "." + m.getName() + " parameters", m.getParameterCount() <= 7, true);
            }
        }
    }

    private static boolean isStatic(Member m) {
        return Modifier.isStatic(m.getModifiers());
    }

    /** Nothing is thrown away in the class, so what an object holds is all that it has made. */
    private static void room() throws ReflectiveOperationException {
        SproutTable x = new SproutTable();
        long fresh = sizeOf(x);
        System.out.println("a new object holds " + fresh + " fields and elements");
        DUE.is("512 new objects have room", 512 * fresh < 7300000, true);
        Random random = new Random(5);
        for (int call = 0; call < 80; call++) {
            if (x.moves() == 0 || random.nextInt(20) == 0) {
                x.begin(3 + random.nextInt(3));
            }
            x.move(random.nextInt(x.moves()));
            x.image(random.nextInt(4));
            x.best();
            x.nim();
        }
        long used = sizeOf(x);
        System.out.println("behind all calls it holds " + used + " fields and elements");
        DUE.is("256 objects that solve have room", 256 * used < 7300000, true);
    }

    private static long sizeOf(Object root) throws ReflectiveOperationException {
        Map<Object, Object> seen = new IdentityHashMap<>();
        Deque<Object> open = new ArrayDeque<>();
        open.add(root);
        seen.put(root, root);
        long size = 0;
        while (!open.isEmpty()) {
            Object next = open.remove();
            if (next.getClass().isArray()) {
                size += Array.getLength(next);
                for (int k = 0; next instanceof Object[] && k < Array.getLength(next); k++) {
                    visit(Array.get(next, k), seen, open);
                }
            } else {
                for (Field f : next.getClass().getDeclaredFields()) {
                    if (!isStatic(f)) {
                        size++;
                        f.setAccessible(true);
                        if (!f.getType().isPrimitive()) {
                            visit(f.get(next), seen, open);
                        }
                    }
                }
            }
        }
        return size;
    }

    private static void visit(Object found, Map<Object, Object> seen, Deque<Object> open) {
        if (found != null && seen.put(found, found) == null) {
            open.add(found);
        }
    }
}
