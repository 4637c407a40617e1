import java.io.IOException;
import java.lang.reflect.Constructor;
import java.lang.reflect.Field;
import java.lang.reflect.Method;
import java.lang.reflect.Modifier;
import java.nio.file.Files;
import java.nio.file.Path;
import java.util.ArrayList;
import java.util.List;
import java.util.Set;
import java.util.TreeSet;
import java.util.regex.Matcher;
import java.util.regex.Pattern;

/** The rules of LANGUAGE.md that can be seen from outside or in the text, and that calls make no objects. */
public final class LanguageTest {
    private static final String FACE = "as(int, int) int; about(int) int; arrived(boolean, int) int; blank() int; "
        + "chip() int; circuit(int, int) int; close(int) int; count(int) int; cut(int, boolean) int; digest() long; "
        + "faster() int; fastest() int; fault() int; feed(int, int) int; letter(int) int; link(int, int) int; "
        + "move(int) int; open(int, int, int, int, int) int; pair(int, int) int; route(int, int) int; run(int) int; "
        + "slot(int, int) int; start(int, int) int; storm(int, int) int; stray(int, int, boolean) int; "
        + "straying(int, int) int; take(int, int) int";

    public static void main(String[] args) throws IOException {
        face();
        constants();
        classesInside();
        text();
        callsMakeNoObjects();
        Check.end("LanguageTest");
    }

    private static void yes(String what, boolean is) {
        Check.due(what, is ? 1 : 0, 1);
    }

    private static void face() {
        yes("the class is public and final",
            Modifier.isPublic(SlotChip.class.getModifiers()) && Modifier.isFinal(SlotChip.class.getModifiers()));
        Set<String> found = new TreeSet<>();
        for (Method method : SlotChip.class.getDeclaredMethods()) {
            if (Modifier.isPublic(method.getModifiers())) {
                yes(method.getName() + " is no static method", !Modifier.isStatic(method.getModifiers()));
                List<String> types = new ArrayList<>();
                for (Class<?> type : method.getParameterTypes()) {
                    types.add(type.getName());
                }
                found.add(method.getName() + "(" + String.join(", ", types) + ") " + method.getReturnType());
            } else {
                yes(method.getName() + " is private", Modifier.isPrivate(method.getModifiers()));
            }
        }
        yes("the methods are " + found, found.equals(new TreeSet<>(List.of(FACE.split("; ")))));
        Constructor<?>[] constructors = SlotChip.class.getDeclaredConstructors();
        yes("one public constructor without parameters", constructors.length == 1
            && Modifier.isPublic(constructors[0].getModifiers()) && constructors[0].getParameterCount() == 0);
    }

    private static void constants() {
        Check.due("NONE", SlotChip.NONE, -1);
        Check.due("UNKNOWN", SlotChip.UNKNOWN, -101);
        Check.due("OUTSIDE", SlotChip.OUTSIDE, -102);
        Check.due("STATE", SlotChip.STATE, -103);
        Check.due("FULL", SlotChip.FULL, -104);
        Set<String> names = new TreeSet<>();
        for (Field field : SlotChip.class.getDeclaredFields()) {
            if (Modifier.isPrivate(field.getModifiers())) {
                continue;
            }
            names.add(field.getName());
            yes(field.getName() + " is a public constant", Modifier.isPublic(field.getModifiers())
                && Modifier.isStatic(field.getModifiers()) && Modifier.isFinal(field.getModifiers()));
        }
        yes("the constants are " + names, names.equals(Set.of("NONE", "UNKNOWN", "OUTSIDE", "STATE", "FULL")));
    }

    private static void classesInside() {
        List<Class<?>> all = new ArrayList<>(List.of(SlotChip.class.getDeclaredClasses()));
        all.add(SlotChip.class);
        yes("twelve classes at most", all.size() <= 12);
        Set<String> face = new TreeSet<>();
        for (String method : FACE.split("; ")) {
            face.add(method.substring(0, method.indexOf('(')));
        }
        for (Class<?> one : all) {
            yes(one + " has no class inside it", one == SlotChip.class || one.getDeclaredClasses().length == 0);
            yes(one + " is static", one == SlotChip.class || Modifier.isStatic(one.getModifiers()));
            int fields = 0;
            for (Field field : one.getDeclaredFields()) {
                fields += Modifier.isStatic(field.getModifiers()) ? 0 : 1;
                yes(field + " is final, if it is static",
                    !Modifier.isStatic(field.getModifiers()) || Modifier.isFinal(field.getModifiers()));
            }
            yes(one + " has twenty fields at most", fields <= 20);
            for (Method method : one.getDeclaredMethods()) {
                yes(method + " has seven parameters at most", method.getParameterCount() <= 7);
                yes(method + " bears no name of the face",
                    Modifier.isPublic(method.getModifiers()) || !face.contains(method.getName()));
            }
        }
    }

    private static void text() throws IOException {
        String text = Files.readString(Path.of("src/main/java/SlotChip.java"));
        yes("its signs are 1 to 127", text.chars().allMatch(sign -> sign > 0 && sign < 128));
        String code = text.replaceAll("(?s)/\\*.*?\\*/", " ").replaceAll("//[^\n]*", " ");
        Matcher wrong = Pattern.compile("\\b(throw|throws|try|catch|finally|synchronized|assert|import|package|record|"
            + "Random|System|Thread|Object|equals|hashCode|toString|interface|abstract|double|float|\\w+Exact)\\b|->|::|\"")
            .matcher(code);
        while (wrong.find()) {
            yes("the program has no '" + wrong.group() + "'", false);
        }
        int begun = 0;
        String[] lines = text.split("\n");
        for (int line = 0; line < lines.length; line++) {
            yes("line " + (line + 1) + " has 120 signs at most", lines[line].length() <= 120);
            if (lines[line].matches("( {4}| {8})[a-z].*\\) \\{")) {
                begun = line;
            }
            if (lines[line].matches("( {4}| {8})\\}")) {
                yes("the method that ends at line " + (line + 1) + " has sixty lines at most",
                    line - begun < 60 || lines[line].length() == 5);
            }
        }
    }

    /** What stays in the room is what the constructor made, however many calls there are. */
    private static void callsMakeNoObjects() {
        com.sun.management.ThreadMXBean threads =
            (com.sun.management.ThreadMXBean) java.lang.management.ManagementFactory.getThreadMXBean();
        SlotChip[] chips = new SlotChip[50];
        for (int i = 0; i < chips.length; i++) {
            chips[i] = Check.chip("3x3:10");
        }
        long id = Thread.currentThread().getId();
        long sum = allCalls(Check.chip("3x3:10"));
        long before = threads.getThreadAllocatedBytes(id);
        for (int i = 0; i < chips.length; i++) {
            sum += allCalls(chips[i]);
        }
        long made = threads.getThreadAllocatedBytes(id) - before;
        yes("1,500 calls made " + made + " bytes (" + sum + ")", made < 1000);
    }

    private static long allCalls(SlotChip x) {
        long sum = x.letter('3') + x.letter('x') + x.letter('3') + x.letter(':') + x.letter('9') + x.fault() + x.chip();
        sum += x.open(2, 0, 8, 4, 15) + x.open(1, 8, 0, 3, 15) + x.open(3, 4, 0, 2, 3) + x.pair(0, 1);
        sum += x.feed(0, 9) + x.feed(1, 9) + x.storm(9, (int) (sum & 255)) + x.stray(0, 8, true) + x.run(40);
        sum += x.take(0, 3) + x.run(40) + x.move(0) + x.close(2) + x.cut(27, true) + x.about(7) + x.about(5);
        sum += x.fastest() + x.faster() + x.arrived(true, 1) + x.count(4) + x.digest() + x.blank();
        return sum;
    }
}
