import java.lang.reflect.Constructor;
import java.lang.reflect.Field;
import java.lang.reflect.Method;
import java.lang.reflect.Modifier;
import java.util.Arrays;
import java.util.Random;
import java.util.Set;
import java.util.TreeSet;

/**
 * The public face is the document's, no call throws, whatever its arguments are, and what the
 * compiled class shows of it keeps to the rules 1, 5 and 11 of LANGUAGE.md.
 */
public final class FaceTest {
    private static final String[] FACE = {
        "public static final int EditionGrid.NONE",
        "public static final int EditionGrid.ROOM",
        "public EditionGrid(int,int,int)",
        "public boolean EditionGrid.metric(char,int)",
        "public int EditionGrid.pattern(long,int,long)",
        "public int EditionGrid.cuts(long,int)",
        "public int EditionGrid.feed(long,int)",
        "public int EditionGrid.clear()",
        "public int EditionGrid.read()",
        "public int EditionGrid.fault()",
        "public int EditionGrid.plan()",
        "public int EditionGrid.held(int)",
        "public int EditionGrid.lines(int)",
        "public int EditionGrid.cost(int,int)",
        "public int EditionGrid.part(int,int,int)",
        "public int EditionGrid.cell(int,int,int)",
        "public int EditionGrid.ink(int,int,int,int)",
    };
    private static final int[] EDGES = {Integer.MIN_VALUE, Integer.MAX_VALUE, -1, 0, 1, 2, 3, 4, 5, 6, 7, 8, 9, 10, 11, 16, 64};
    private static int wrong = 0;

    public static void main(String[] args) {
        Set<String> face = new TreeSet<>();
        for (Field field : EditionGrid.class.getDeclaredFields()) {
            addMember(face, field.getModifiers(), field.toString());
        }
        for (Constructor<?> constructor : EditionGrid.class.getDeclaredConstructors()) {
            addMember(face, constructor.getModifiers(), constructor.toString());
        }
        for (Method method : EditionGrid.class.getDeclaredMethods()) {
            addMember(face, method.getModifiers(), method.toString());
        }
        due("the face", face, new TreeSet<>(Arrays.asList(FACE)));
        due("NONE", EditionGrid.NONE, -1);
        due("ROOM", EditionGrid.ROOM, -2);
        due("final", Modifier.isFinal(EditionGrid.class.getModifiers()), true);
        due("public", Modifier.isPublic(EditionGrid.class.getModifiers()), true);
        int classes = 1 + EditionGrid.class.getDeclaredClasses().length;
        due("some twelve classes", classes <= 12, true);
        dueRules(EditionGrid.class);
        for (Class<?> inside : EditionGrid.class.getDeclaredClasses()) {
            int modifiers = inside.getModifiers();
            due(inside + " is static", Modifier.isStatic(modifiers), true);
            due(inside + " is not public", Modifier.isPublic(modifiers) || Modifier.isProtected(modifiers), false);
            dueRules(inside);
        }
        for (int run = 0; run < 400; run++) {
            callWithAnything(new Random(run), run);
        }
        System.out.println(wrong == 0 ? "the face is as due" : wrong + " things are not as due");
        if (wrong != 0) {
            System.exit(1);
        }
    }

    private static void dueRules(Class<?> type) {
        int fields = 0;
        for (Field field : type.getDeclaredFields()) {
            boolean isStatic = Modifier.isStatic(field.getModifiers());
            fields += isStatic ? 0 : 1;
            due(field + " is final if it is static", !isStatic || Modifier.isFinal(field.getModifiers()), true);
        }
        due(type + " has at most twenty fields", fields <= 20, true);
        for (Method method : type.getDeclaredMethods()) {
            due(method + " has at most seven parameters", method.getParameterCount() <= 7, true);
            if (!Modifier.isPublic(method.getModifiers())) {
                due(method + " has a name of the face", isOfTheFace(method.getName()), false);
            }
        }
    }

    private static boolean isOfTheFace(String name) {
        for (Method method : EditionGrid.class.getMethods()) {
            if (method.getDeclaringClass() == EditionGrid.class && method.getName().equals(name)) {
                return true;
            }
        }
        return false;
    }

    private static void addMember(Set<String> face, int modifiers, String member) {
        if (!Modifier.isPrivate(modifiers)) {
            face.add(member);
        }
    }

    private static void due(String what, Object got, Object want) {
        if (!got.equals(want)) {
            wrong++;
            System.out.println(what + " is " + got + ", due is " + want);
        }
    }

    private static void callWithAnything(Random random, int run) {
        int calls = 0;
        try {
            EditionGrid grid = new EditionGrid(edge(random), edge(random), edge(random));
            while (calls < 512) {
                calls++;
                callOne(grid, random);
            }
        } catch (RuntimeException thrown) {
            due("run " + run + ", call " + calls, thrown.toString(), "nothing thrown");
        }
    }

    private static int edge(Random random) {
        return random.nextInt(20) == 0 ? random.nextInt() : EDGES[random.nextInt(EDGES.length)];
    }

    /** Bytes that often are right for a text, so that there are stories now and then. */
    private static long bytes(Random random) {
        String[] texts = {"#1a\nbc d", "\n=12\nabc", "\nefg hi\n", "#9a\nb\nc\n", "ab cd ef", " abc abc", "\n#5ab\nab"};
        if (random.nextInt(40) == 0) {
            return random.nextLong();
        }
        long packed = 0;
        for (char c : texts[random.nextInt(texts.length)].toCharArray()) {
            packed = packed << 8 | c;
        }
        return packed;
    }

    private static void callOne(EditionGrid grid, Random random) {
        switch (random.nextInt(16)) {
            case 0 -> grid.metric((char) random.nextInt(random.nextBoolean() ? 65536 : 128), edge(random));
            case 1 -> grid.pattern(bytes(random), edge(random), random.nextLong() & 0x0707070707070707L);
            case 2 -> grid.cuts(bytes(random), edge(random));
            case 3, 4 -> grid.feed(bytes(random), random.nextInt(4) == 0 ? edge(random) : 8);
            case 5 -> grid.fault();
            case 6 -> grid.read();
            case 7, 8 -> grid.plan();
            case 9 -> grid.held(edge(random));
            case 10 -> grid.lines(edge(random));
            case 11 -> grid.cost(edge(random), edge(random));
            case 12 -> grid.part(edge(random), edge(random), edge(random));
            case 13 -> grid.cell(edge(random), edge(random), edge(random));
            case 14 -> grid.ink(edge(random), edge(random), edge(random), edge(random));
            default -> {
                if (random.nextInt(3) == 0) {
                    grid.clear();
                }
            }
        }
    }
}
