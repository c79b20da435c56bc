import java.lang.management.ManagementFactory;
import java.lang.reflect.Constructor;
import java.lang.reflect.Executable;
import java.lang.reflect.Field;
import java.lang.reflect.Method;
import java.lang.reflect.Modifier;
import java.nio.file.Files;
import java.nio.file.Path;
import java.util.Arrays;
import java.util.Set;
import java.util.TreeSet;
import java.util.regex.Matcher;
import java.util.regex.Pattern;
import java.util.stream.Collectors;

/** The rules of LANGUAGE.md that can be looked at from outside: the face, the words, the room. */
public final class LanguageTest {
    private static final Pattern BLOCK = Pattern.compile("(?ms)^```java\\n(.*?)^```$");
    private static final Pattern MEMBER = Pattern.compile("(?m)^    public (.*);$");
    private static final String[] BANNED = {"throw", "throws", "try", "catch", "synchronized", "assert", "finally",
        "double", "float", "Exact", "->", "::", "System.out", "Random", "Thread", "nanoTime", "currentTimeMillis",
        "hashCode", "getClass", "toString", "protected"};
    private static final long ROOM_OF_A_NEW_OBJECT = 100000;
    private static final long ROOM_OF_ITS_CALLS = 20000;

    public static void main(String[] args) throws Exception {
        face();
        words();
        room();
        Due.finish("LanguageTest");
    }

    /** The members that the document's block of the public face has, and no other. */
    private static void face() throws Exception {
        Class<?> c = ThinkNumber.class;
        Due.due("public and final", Modifier.isPublic(c.getModifiers()) && Modifier.isFinal(c.getModifiers()), true);
        Matcher block = BLOCK.matcher(Files.readString(Path.of("../shared/DOC.md")));
        Due.due("the document has a face", block.find(), true);
        Set<String> want = MEMBER.matcher(block.group(1)).results()
            .map(m -> m.group(1).replaceAll("(int|boolean) \\w+(?=[,)])", "$1")).collect(Collectors.toSet());
        Due.due("members of the document's face", want.size(), 35);
        Set<String> got = new TreeSet<>();
        Set<String> names = new TreeSet<>();
        for (Method m : c.getDeclaredMethods()) {
            if (!Modifier.isPrivate(m.getModifiers())) {
                names.add(m.getName());
                got.add(m.getReturnType() + " " + m.getName() + parameters(m));
                Due.due("public, not static: " + m, m.getModifiers(), Modifier.PUBLIC);
            }
        }
        for (Constructor<?> m : c.getDeclaredConstructors()) {
            got.add(c.getName() + parameters(m));
            Due.due("public: " + m, m.getModifiers(), Modifier.PUBLIC);
        }
        for (Field f : c.getDeclaredFields()) {
            if (!Modifier.isPrivate(f.getModifiers())) {
                got.add("static final " + f.getType() + " " + f.getName() + " = " + f.get(null));
                Due.due("a constant: " + f, f.getModifiers(), Modifier.PUBLIC | Modifier.STATIC | Modifier.FINAL);
            }
        }
        Due.due("the face " + got, got.equals(want), true);
        inside(c, names);
    }

    private static String parameters(Executable m) {
        return Arrays.stream(m.getParameterTypes()).map(Class::getName).collect(Collectors.joining(", ", "(", ")"));
    }

    private static void inside(Class<?> c, Set<String> names) {
        Due.due("some twelve classes", c.getDeclaredClasses().length < 13, true);
        for (Class<?> inner : c.getDeclaredClasses()) {
            Due.due("static: " + inner, Modifier.isStatic(inner.getModifiers()), true);
            Due.due("some twenty fields: " + inner, inner.getDeclaredFields().length <= 20, true);
            for (Method m : inner.getDeclaredMethods()) {
                Due.due("a name of the face: " + m, names.contains(m.getName()), false);
                Due.due("seven parameters: " + m, m.getParameterCount() <= 7, true);
            }
        }
        for (Method m : c.getDeclaredMethods()) {
            if (Modifier.isPrivate(m.getModifiers())) {
                Due.due("a name of the face: " + m, names.contains(m.getName()), false);
            }
        }
    }

    private static void words() throws Exception {
        String source = Files.readString(Path.of("src/main/java/ThinkNumber.java"));
        Due.due("signs below 128", source.chars().allMatch(sign -> sign < 128), true);
        String code = source.replaceAll("(?s)/\\*.*?\\*/", "").replaceAll("//.*", "");
        for (String word : BANNED) {
            boolean isWord = word.matches("[A-Za-z]+") && !word.equals("Exact");
            boolean found = isWord ? code.matches("(?s).*\\b" + word + "\\b.*") : code.contains(word);
            Due.due("the word " + word, found, false);
        }
        Due.due("imports", code.replaceAll("(?m)^import java\\.util\\.Arrays;$", "").contains("import"), false);
        Due.due("a line of a hundred signs", code.lines().allMatch(line -> line.length() <= 100), true);
    }

    /** No call makes objects, so the dearest run takes no more room than its one object. */
    private static void room() {
        com.sun.management.ThreadMXBean threads =
            (com.sun.management.ThreadMXBean) ManagementFactory.getThreadMXBean();
        dearestCalls(new ThinkNumber(), 1);
        long start = threads.getCurrentThreadAllocatedBytes();
        ThinkNumber x = new ThinkNumber();
        long made = threads.getCurrentThreadAllocatedBytes();
        Due.due("room of a new object, " + (made - start), made - start < ROOM_OF_A_NEW_OBJECT, true);
        Due.table(x, "hide a from 0 to 499;times 2;say;by 3;say;rest 7;");
        Due.table(x, "hide a from 0 to 9999;hide b from 0 to 1;by 7;times 9;by 3;add b;say;take 0;");
        long before = threads.getCurrentThreadAllocatedBytes();
        dearestCalls(x, 40);
        long used = threads.getCurrentThreadAllocatedBytes() - before;
        Due.due("room of its calls, " + used, used < ROOM_OF_ITS_CALLS, true);
    }

    private static void dearestCalls(ThinkNumber x, int times) {
        for (int kind = 0; kind < 6; kind++) {
            x.kit(kind, kind + 1);
            x.ask(kind + 2);
        }
        for (int k = 0; k < times; k++) {
            x.made(1, 100, 9999, 5, ThinkNumber.NONE);
            x.more(0);
            x.fits(1, 0, 2);
            x.same(1);
            x.proof(1, 0);
            x.slip(1, 5, 1, 0);
            x.known(24, true);
            x.play(1);
            x.go();
            x.image();
            x.back();
        }
    }
}
