import java.io.IOException;
import java.lang.management.ManagementFactory;
import java.lang.reflect.Constructor;
import java.lang.reflect.Field;
import java.lang.reflect.Method;
import java.lang.reflect.Modifier;
import java.nio.charset.StandardCharsets;
import java.nio.file.Files;
import java.nio.file.Path;
import java.util.HashSet;
import java.util.Set;
import java.util.TreeSet;
import java.util.regex.Matcher;
import java.util.regex.Pattern;

/** The rules of LANGUAGE.md that can be seen in the source, the class or its use of room. */
final class LanguageTest {
    private static final String FACE = "again change common count feed forget genus get hold image "
        + "join judge kappa leaves lose may mark met number of onTree order read restore row rule "
        + "set spell split splitAt take taken tree trees undo valence why wipe";
    private static final String FORBIDDEN = "throw|throws|try|catch|synchronized|assert|import|"
        + "package|volatile|native|transient|equals|hashCode|toString|finalize|System|Thread|Object|"
        + "Exact|lambda|var|yield";

    private final Check check;

    private LanguageTest(Check check) {
        this.check = check;
    }

    static void run(Check check, Path source) throws IOException {
        LanguageTest test = new LanguageTest(check);
        test.source(Files.readString(source, StandardCharsets.UTF_8));
        test.face();
        test.classesInside();
        test.room();
    }

    private void source(String source) {
        check.holds("only signs 1 to 127", source.chars().allMatch(c -> c > 0 && c < 128));
        String code = source.replaceAll("(?s)/\\*.*?\\*/", "").replaceAll("//[^\n]*", "");
        Matcher word = Pattern.compile("\\b(" + FORBIDDEN + ")\\b").matcher(code);
        check.holds("no forbidden word", !word.find());
        check.holds("no lambda, no method reference", !code.contains("->") && !code.contains("::"));
        check.holds("no text is joined by +", !code.contains("\""));
        check.due("public classes", code.split("\\bpublic final class\\b", -1).length - 1, 1);
        Matcher statics = Pattern.compile("\\bstatic (?!final)[^(;={]*[;=]").matcher(code);
        check.holds("static fields are final", !statics.find());
        objectsAreMadeInConstructors(code);
        methodsAreShort(source);
    }

    /** No call makes an object, so a run needs no more room than its desks. */
    private void objectsAreMadeInConstructors(String code) {
        for (String line : code.split("\n")) {
            if (line.contains("new ")) {
                boolean kept = line.matches("\\s+(this\\.)?\\w+(\\[\\w\\])? = new [^;]+;");
                check.holds("made in a constructor: " + line, kept);
            }
        }
    }

    private void methodsAreShort(String source) {
        int since = 0;
        int number = 0;
        for (String line : source.split("\n")) {
            number++;
            if (line.matches("    (    )?(public|private|static|int|long|boolean|void|Desk|\\w+\\().*\\{")) {
                since = number;
            }
            if (line.matches("    (    )?}")) {
                check.holds("short method at " + since, number - since <= 60 || line.length() == 5);
            }
        }
    }

    private static boolean isPrivate(int modifiers) {
        return Modifier.isPrivate(modifiers);
    }

    private void face() {
        Set<String> face = new TreeSet<>();
        Set<String> hidden = new HashSet<>();
        for (Method method : MarkedCurves.class.getDeclaredMethods()) {
            if (Modifier.isPublic(method.getModifiers())) {
                check.holds("one of each: " + method, face.add(method.getName()));
            } else {
                check.holds("private: " + method, isPrivate(method.getModifiers()));
                hidden.add(method.getName());
            }
        }
        check.holds("the face", String.join(" ", face).equals(
            String.join(" ", new TreeSet<>(Set.of(FACE.split(" "))))));
        hidden.retainAll(face);
        check.holds("no private method bears a public name", hidden.isEmpty());
        for (Field field : MarkedCurves.class.getDeclaredFields()) {
            boolean told = Set.of("BAD", "NOT", "FULL", "STATE", "NO").contains(field.getName());
            check.holds("" + field, isPrivate(field.getModifiers()) != told);
        }
        for (Constructor<?> made : MarkedCurves.class.getDeclaredConstructors()) {
            check.due("" + made, made.getParameterCount(), 0);
        }
    }

    private void classesInside() {
        Class<?>[] inside = MarkedCurves.class.getDeclaredClasses();
        check.holds("some twelve classes", inside.length < 12);
        for (Class<?> one : inside) {
            check.holds("static: " + one, Modifier.isStatic(one.getModifiers()));
            check.holds("private: " + one, isPrivate(one.getModifiers()));
            int fields = 0;
            for (Field field : one.getDeclaredFields()) {
                boolean fixed = Modifier.isStatic(field.getModifiers());
                check.holds("final: " + field, !fixed || Modifier.isFinal(field.getModifiers()));
                fields += fixed ? 0 : 1;
            }
            check.holds("some twenty fields", fields <= 20);
            for (Method method : one.getDeclaredMethods()) {
                check.holds("seven parameters", method.getParameterCount() <= 7);
                check.holds("no public name: " + method,
                    !Set.of(FACE.split(" ")).contains(method.getName()));
            }
        }
    }

    /** One object is small, and its calls make nothing. */
    private void room() {
        com.sun.management.ThreadMXBean bean =
            (com.sun.management.ThreadMXBean) ManagementFactory.getThreadMXBean();
        long thread = Thread.currentThread().getId();
        // Once ahead, so that what loading and linking makes is not counted.
        bean.getThreadAllocatedBytes(thread);
        useAll(new MarkedCurves());
        long before = bean.getThreadAllocatedBytes(thread);
        MarkedCurves x = new MarkedCurves();
        long made = bean.getThreadAllocatedBytes(thread) - before;
        check.holds("an object has less than 40000 bytes: " + made, made < 40000);
        before = bean.getThreadAllocatedBytes(thread);
        useAll(x);
        long more = bean.getThreadAllocatedBytes(thread) - before;
        check.holds("calls make nothing: " + more, more < 4000);
    }

    private static void useAll(MarkedCurves x) {
        for (int i = 0; i < 60; i++) {
            x.genus(i % 3);
            x.mark(i % 13);
            x.order(i % 4);
            x.number(0);
            x.met();
            x.kappa(i % 10, 1, 2, 0);
            x.leaves(3 + i % 4);
            x.split(6);
            x.valence(0);
            x.tree(6, 3, i, 1);
            x.onTree();
            x.forget(2);
            x.undo();
            x.again();
            x.feed(0x303a312c, 4);
            x.read();
            x.why(1, 1);
            x.spell(i);
            x.hold(i % 6, i % 2);
            x.taken(i % 6, 2);
            x.common(i % 6);
            x.row(i % 6, 20);
            x.judge(i % 6);
            x.image();
            x.restore();
        }
    }
}
