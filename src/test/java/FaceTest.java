import java.io.IOException;
import java.lang.reflect.Constructor;
import java.lang.reflect.Field;
import java.lang.reflect.Method;
import java.lang.reflect.Modifier;
import java.nio.file.Files;
import java.nio.file.Path;
import java.util.ArrayList;
import java.util.HashSet;
import java.util.List;
import java.util.Set;
import java.util.TreeSet;
import java.util.regex.Matcher;
import java.util.regex.Pattern;

/** The public face, and the rules of LANGUAGE.md that can be seen from the class and its text. */
public final class FaceTest {
    private static final String[] FACE = {
        "feed int long", "book", "fault", "part int int", "effect int int int", "choice int int int",
        "link int int int int", "unlink int int", "count int", "begin", "choose int", "roll int", "now int", "odds int",
        "advice int", "fewest", "surely", "parts int", "things int", "without int int", "log int", "clear", "judge",
        "number int", "near int", "shuffle int int", "page int int", "flips int", "seed int", "blind int", "keep int",
        "goBack int"};

    private static void due(String what, boolean holds) {
        Check.due(what, holds ? 1 : 0, 1);
    }

    public static void main(String[] args) throws IOException {
        face();
        names();
        staticFields();
        sizes();
        text(Files.readString(Path.of("src/main/java/ChoiceBook.java")));
        Check.end();
    }

    private static void face() {
        Class<?> c = ChoiceBook.class;
        due("public and final", Modifier.isPublic(c.getModifiers()) && Modifier.isFinal(c.getModifiers()));
        Set<String> want = new TreeSet<>(List.of(FACE));
        Set<String> has = new TreeSet<>();
        for (Method m : c.getDeclaredMethods()) {
            if (Modifier.isPublic(m.getModifiers())) {
                StringBuilder s = new StringBuilder(m.getName());
                for (Class<?> p : m.getParameterTypes()) {
                    s.append(' ').append(p.getName());
                }
                has.add(s.toString());
                due(m.getName() + " answers an int of the object",
                    m.getReturnType() == int.class && !Modifier.isStatic(m.getModifiers()));
            } else {
                due(m.getName() + " is private", Modifier.isPrivate(m.getModifiers()));
            }
        }
        due("the face " + has, want.equals(has));
        Constructor<?>[] makers = c.getDeclaredConstructors();
        due("one constructor", makers.length == 1 && makers[0].getParameterCount() == 0
            && Modifier.isPublic(makers[0].getModifiers()));
        Set<String> open = new TreeSet<>();
        for (Field f : c.getDeclaredFields()) {
            if (!Modifier.isPrivate(f.getModifiers())) {
                open.add(f.getName());
            }
        }
        due("the constants " + open, open.equals(Set.of("NONE", "UNKNOWN", "OUTSIDE", "NOT", "FULL")));
        Check.due("NONE", ChoiceBook.NONE, -1);
        Check.due("UNKNOWN", ChoiceBook.UNKNOWN, -1000001);
        Check.due("OUTSIDE", ChoiceBook.OUTSIDE, -1000002);
        Check.due("NOT", ChoiceBook.NOT, -1000003);
        Check.due("FULL", ChoiceBook.FULL, -1000004);
    }

    private static List<Class<?>> classes() {
        List<Class<?>> all = new ArrayList<>(List.of(ChoiceBook.class));
        all.addAll(List.of(ChoiceBook.class.getDeclaredClasses()));
        return all;
    }

    private static void names() {
        Set<String> face = new HashSet<>();
        for (String row : FACE) {
            face.add(row.split(" ")[0]);
        }
        for (Class<?> c : classes()) {
            for (Method m : c.getDeclaredMethods()) {
                boolean own = c == ChoiceBook.class && Modifier.isPublic(m.getModifiers());
                due("rule 1: the name of " + m, own || !face.contains(m.getName()));
                due("rule 11: parameters of " + m, m.getParameterCount() <= 7);
            }
        }
    }

    private static void staticFields() {
        for (Class<?> c : classes()) {
            for (Field f : c.getDeclaredFields()) {
                int mods = f.getModifiers();
                due("rule 5: " + f, !Modifier.isStatic(mods) || Modifier.isFinal(mods) && f.getType() == int.class);
            }
        }
    }

    private static void sizes() {
        due("rule 11: classes", classes().size() <= 12);
        for (Class<?> c : classes()) {
            due("rule 2: " + c, c == ChoiceBook.class || Modifier.isStatic(c.getModifiers()));
            int fields = 0;
            for (Field f : c.getDeclaredFields()) {
                fields += Modifier.isStatic(f.getModifiers()) ? 0 : 1;
            }
            due("rule 11: fields of " + c, fields <= 20);
        }
    }

    private static void text(String source) {
        String code = source.replaceAll("(?s)/\\*.*?\\*/", "").replaceAll("//[^\n]*", "");
        for (String word : new String[] {"throw", "throws", "try", "catch", "synchronized", "assert", "package", "volatile",
            "->", "::", "@", "while", "do", "Exact", "Object", "System\\.(?!arraycopy)", "Arrays\\.(?!fill|copyOf)",
            "Math\\.(?!min|max|abs)", "Integer\\.(?!bitCount)", "HashMap", "String\\.", "var", "float", "double"}) {
            String sought = Character.isLetter(word.charAt(0)) ? "\\b" + word + "(?![a-z])" : word;
            due("rules 4, 6: " + word, !Pattern.compile(sought).matcher(code).find());
        }
        for (Matcher m = Pattern.compile("import ([^;]*);").matcher(code); m.find(); ) {
            due("rule 4: import " + m.group(1), m.group(1).equals("java.util.Arrays"));
        }
        due("rule 10: no texts joined by +", !Pattern.compile("\"\\s*\\+|\\+\\s*\"").matcher(code).find());
        String[] lines = source.split("\n");
        int start = 0;
        for (int i = 0; i < lines.length; i++) {
            if (lines[i].matches(" {4,8}[a-zA-Z].*\\) \\{")) {
                start = i;
            }
            if (lines[i].matches(" {4,8}\\}")) {
                due("rule 11: the method at line " + (start + 1), i - start < 60 || lines[start].contains("class"));
            }
        }
    }
}
