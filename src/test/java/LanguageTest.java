import java.io.IOException;
import java.lang.reflect.Field;
import java.lang.reflect.Method;
import java.lang.reflect.Modifier;
import java.nio.file.Files;
import java.nio.file.Path;
import java.util.Set;
import java.util.TreeSet;
import java.util.regex.Matcher;
import java.util.regex.Pattern;

/** The face of the class, and what LANGUAGE.md leaves out, as far as it can be seen simply. */
public final class LanguageTest {
    private static final String FACE = "place(II) verse(IIIII) one(III) has(IIZ) dies(I) now(II) placeOf(II) "
        + "verseOf(II) oneOf(II) feed(J) end(I) rules() fault() rule(I) may(II) asks(III) led(I) need(I) "
        + "way(III) wanting(III) reach(II) party(III) cut(II) cutTold(III) tune(I) where(III) sure(I) "
        + "faster(III) cross(III) soon(I) can(III) teach(III) keep(I) map(II) sheet(III) lay(III) "
        + "read(IIIII) torn() count(I)";
    private static final Due due = new Due("LanguageTest");

    public static void main(String[] args) throws IOException {
        face();
        inside();
        words();
        due.close();
    }

    private static void face() {
        Set<String> want = new TreeSet<>(Set.of(FACE.split(" ")));
        Set<String> got = new TreeSet<>();
        for (Method m : WaysSung.class.getDeclaredMethods()) {
            if (Modifier.isPublic(m.getModifiers())) {
                StringBuilder types = new StringBuilder();
                for (Class<?> type : m.getParameterTypes()) {
                    types.append(type.descriptorString());
                }
                got.add(m.getName() + "(" + types + ")");
                due.is(m + " answers an int", 1, m.getReturnType() == int.class ? 1 : 0);
            } else {
                due.is(m + " is private", 1, Modifier.isPrivate(m.getModifiers()) ? 1 : 0);
            }
        }
        due.is("the methods are " + got, 1, want.equals(got) ? 1 : 0);
        due.is("39 methods", 39, got.size());
        for (Field f : WaysSung.class.getDeclaredFields()) {
            boolean constant = Set.of("BAD", "STATE", "FULL", "NONE").contains(f.getName());
            int wanted = constant ? Modifier.PUBLIC : Modifier.PRIVATE;
            due.is(f + " is as it should be", 1, (f.getModifiers() & wanted) != 0 ? 1 : 0);
        }
        due.is("one constructor", 1, WaysSung.class.getDeclaredConstructors().length);
        due.is("BAD", -1, WaysSung.BAD);
        due.is("STATE", -2, WaysSung.STATE);
        due.is("FULL", -3, WaysSung.FULL);
        due.is("NONE", -4, WaysSung.NONE);
        int modifiers = WaysSung.class.getModifiers();
        due.is("public and final", 1, Modifier.isPublic(modifiers) && Modifier.isFinal(modifiers) ? 1 : 0);
    }

    private static void inside() {
        Class<?>[] classes = WaysSung.class.getDeclaredClasses();
        due.is("twelve classes at most", 1, classes.length < 12 ? 1 : 0);
        for (Class<?> c : classes) {
            due.is(c + " is static", 1, Modifier.isStatic(c.getModifiers()) ? 1 : 0);
            int fields = 0;
            for (Field f : c.getDeclaredFields()) {
                boolean constant = Modifier.isStatic(f.getModifiers());
                fields += constant ? 0 : 1;
                due.is(f + " is final", 1, !constant || Modifier.isFinal(f.getModifiers()) ? 1 : 0);
            }
            due.is(c + " has few fields", 1, fields <= 20 ? 1 : 0);
            for (Method m : c.getDeclaredMethods()) {
                due.is(m + " has a name of its own", 0, (" " + FACE).contains(" " + m.getName() + "(") ? 1 : 0);
                due.is(m + " takes seven at most", 1, m.getParameterCount() <= 7 ? 1 : 0);
            }
        }
    }

    private static void words() throws IOException {
        String text = Files.readString(Path.of("src/main/java/WaysSung.java"));
        text = text.replaceAll("(?s)/\\*.*?\\*/", " ").replaceAll("//[^\n]*", " ").replaceAll("\"[^\"]*\"", "\"\"");
        String[] left = {"throw", "try", "catch", "finally", "synchronized", "assert", "import", "package",
            "System", "Object", "Exact", "hashCode", "volatile", "static \\{", "->", "::"};
        for (String word : left) {
            String whole = Character.isLetter(word.charAt(0)) ? "\\b" + word : word;
            due.is("the word " + word, 0, Pattern.compile(whole).matcher(text).find() ? 1 : 0);
        }
        Matcher bodies = Pattern.compile("(?s)\n( +)(?:public|private)[^\n;=]*\\) \\{\n(.*?)\n\\1\\}").matcher(text);
        int found = 0;
        while (bodies.find()) {
            found++;
            due.is("a long method: " + bodies.group(), 1, bodies.group(2).split("\n").length <= 58 ? 1 : 0);
        }
        due.is("methods were seen", 1, found > 80 ? 1 : 0);
    }
}
