import java.io.DataInputStream;
import java.io.File;
import java.io.IOException;
import java.io.InputStream;
import java.lang.reflect.Constructor;
import java.lang.reflect.Field;
import java.lang.reflect.Member;
import java.lang.reflect.Method;
import java.lang.reflect.Modifier;
import java.nio.file.Files;
import java.util.Arrays;
import java.util.HashSet;
import java.util.Set;
import java.util.TreeSet;

/** The face of the document, and the library that LANGUAGE.md lists, looked up in the compiled classes. */
public final class LanguageTest {
    private static final String SHARED = System.getProperty("shared", "../shared");
    private static final Set<String> LIBRARY = Set.of(
            "java/lang/Object.<init>()V",
            "java/lang/Math.min(II)I", "java/lang/Math.max(II)I",
            "java/lang/Math.min(JJ)J", "java/lang/Math.max(JJ)J",
            "java/lang/System.arraycopy(Ljava/lang/Object;ILjava/lang/Object;II)V",
            "java/lang/StringBuilder.<init>()V", "java/lang/StringBuilder.append(C)Ljava/lang/StringBuilder;",
            "java/lang/StringBuilder.append(I)Ljava/lang/StringBuilder;", "java/lang/StringBuilder.setLength(I)V",
            "java/lang/StringBuilder.length()I", "java/lang/StringBuilder.charAt(I)C",
            "java/lang/IllegalStateException.<init>(Ljava/lang/String;)V",
            "java/lang/IllegalArgumentException.<init>(Ljava/lang/String;)V",
            "java/lang/IndexOutOfBoundsException.<init>(Ljava/lang/String;)V",
            "java/lang/ArithmeticException.<init>(Ljava/lang/String;)V",
            "java/lang/UnsupportedOperationException.<init>(Ljava/lang/String;)V",
            "java/util/NoSuchElementException.<init>(Ljava/lang/String;)V");

    private final Check check = new Check();

    public static void main(String[] arguments) throws IOException, ClassNotFoundException {
        LanguageTest test = new LanguageTest();
        test.face();
        test.classes();
        test.source();
        test.check.end("LanguageTest");
    }

    private void face() throws IOException {
        Set<String> due = new TreeSet<>();
        for (String row : Files.readAllLines(new File(SHARED, "DOC.md").toPath())) {
            if (row.matches("    public .*\\).*;")) {
                due.add(row.trim().replace(";", "").replaceAll(" throws .*", " throws")
                        .replaceAll("(int|char|boolean) [a-zA-Z]+(?=[,)])", "$1")
                        + Arrays.toString(thrown(row)));
            }
        }
        Set<String> got = new TreeSet<>();
        for (Constructor<?> constructor : CauldronTypes.class.getDeclaredConstructors()) {
            got.add("public CauldronTypes(" + names(constructor.getParameterTypes()) + ")[]");
        }
        Set<String> open = new HashSet<>();
        for (Method method : CauldronTypes.class.getDeclaredMethods()) {
            if (!Modifier.isPrivate(method.getModifiers())) {
                open.add(method.getName());
                String[] thrown = simpleNames(method.getExceptionTypes());
                got.add("public " + method.getReturnType() + " " + method.getName() + "("
                        + names(method.getParameterTypes()) + ")" + (thrown.length > 0 ? " throws" : "")
                        + Arrays.toString(thrown));
            }
        }
        check.same("the face", due.toString(), got.toString());
        check.same("the class", Modifier.PUBLIC | Modifier.FINAL, CauldronTypes.class.getModifiers());
        for (Field field : CauldronTypes.class.getDeclaredFields()) {
            check.same("private " + field, true, Modifier.isPrivate(field.getModifiers()));
        }
        for (Method method : CauldronTypes.class.getDeclaredMethods()) {
            checkPrivate(method, open, Modifier.isPublic(method.getModifiers()));
        }
        for (Class<?> inside : CauldronTypes.class.getDeclaredClasses()) {
            check.same("static " + inside, true, Modifier.isStatic(inside.getModifiers()));
            for (Method method : inside.getDeclaredMethods()) {
                checkPrivate(method, open, false);
            }
        }
        check.same("few classes", true, CauldronTypes.class.getDeclaredClasses().length <= 12);
    }

    private void checkPrivate(Member member, Set<String> open, boolean isOfTheFace) {
        if (!isOfTheFace) {
            check.same("a name of its own: " + member, false, open.contains(member.getName()));
        }
    }

    private static String[] thrown(String row) {
        int start = row.indexOf(" throws ");
        return start < 0 ? new String[0] : row.substring(start + 8).replace(";", "").split(", ");
    }

    private static String names(Class<?>[] kinds) {
        return String.join(", ", simpleNames(kinds));
    }

    private static String[] simpleNames(Class<?>[] kinds) {
        return Arrays.stream(kinds).map(Class::getSimpleName).toArray(String[]::new);
    }

    private void classes() throws IOException {
        checkClass("CauldronTypes");
        for (Class<?> inside : CauldronTypes.class.getDeclaredClasses()) {
            checkClass(inside.getName());
            for (Field field : inside.getDeclaredFields()) {
                check.same("no static state: " + field, false, Modifier.isStatic(field.getModifiers()));
            }
        }
    }

    /** Reads the constants of a class file: what it calls, and whether anything is bound at run time. */
    private void checkClass(String name) throws IOException {
        try (InputStream file = CauldronTypes.class.getResourceAsStream(name + ".class");
                DataInputStream in = new DataInputStream(file)) {
            in.readLong();
            int count = in.readUnsignedShort();
            String[] texts = new String[count];
            int[][] pairs = new int[count][];
            int[] tags = new int[count];
            for (int index = 1; index < count; index++) {
                tags[index] = in.readUnsignedByte();
                switch (tags[index]) {
                    case 1 -> texts[index] = in.readUTF();
                    case 5, 6 -> {
                        in.readLong();
                        index++;
                    }
                    case 7, 8, 16 -> pairs[index] = new int[] {in.readUnsignedShort(), 0};
                    case 3, 4 -> in.readInt();
                    case 9, 10, 11, 12 -> pairs[index] = new int[] {in.readUnsignedShort(), in.readUnsignedShort()};
                    default -> throw new IOException("a constant of kind " + tags[index] + " in " + name);
                }
            }
            for (int index = 1; index < count; index++) {
                if (tags[index] == 10 || tags[index] == 11) {
                    String of = texts[pairs[pairs[index][0]][0]];
                    int[] said = pairs[pairs[index][1]];
                    String call = of + "." + texts[said[0]] + texts[said[1]];
                    check.same("in the library: " + call, true, of.startsWith("CauldronTypes")
                            || LIBRARY.contains(call) || call.startsWith("[") && call.contains(".clone()"));
                }
            }
        }
    }

    private void source() throws IOException {
        String source = Files.readString(new File("src/main/java/CauldronTypes.java").toPath());
        for (String word : new String[] {"try {", "catch", "finally", "synchronized", "assert ", "->", "::",
            "Float.", "Double.", "MIN_VALUE", "MAX_VALUE", "package "}) {
            check.same("no " + word, false, source.contains(word));
        }
        check.same("ASCII alone", true, source.chars().allMatch(sign -> sign < 127));
    }
}
