import java.io.IOException;
import java.lang.reflect.Constructor;
import java.lang.reflect.Field;
import java.lang.reflect.Method;
import java.lang.reflect.Modifier;
import java.nio.file.Files;
import java.nio.file.Path;
import java.util.Arrays;
import java.util.Set;
import java.util.TreeSet;
import java.util.regex.Matcher;
import java.util.regex.Pattern;
import java.util.stream.Collectors;

/** The public face as the document has it, and the rules of LANGUAGE.md that can be read off the source. */
public final class FaceTest {
    private static final Checks C = new Checks();
    private static final String FACE = "int feed(int,int,int,int,int);int end(int);int text(int,int);int fault(int);"
            + "int office(int,int);int deed(int,int,int);int stop(int,int);int state(int,int,int,int);"
            + "int who(int,int,int,boolean);int enough(int);long odds(int,int,boolean);long mean(int,int,boolean);"
            + "int rest(int,int,int,int);long button(int,int);int fact(int,int,int);int fits(int,int,int);"
            + "int drawn(int,int,int,int);int lunch(int,int,boolean);int rule(int,int,int);int board(int,boolean);"
            + "int rooms(int,boolean);int seat(int,int,boolean);int quiet(int,int);int given(int,int);"
            + "int curve(int,int);int ears(int);int order(int,int,int);int after(int,int,int);"
            + "int blame(int,int,boolean);int duty(int,int,int);int passed(int,int,int);int tied(int,int);"
            + "long empty(int,int,boolean);int best(int);int fewer(int,int,int,int);int loud(int,boolean);"
            + "int count(int);boolean image(int);boolean again(int)";

    public static void main(String[] args) throws IOException {
        face();
        members();
        source();
        C.finish();
    }

    private static void face() {
        Set<String> want = new TreeSet<>(Arrays.asList(FACE.split(";")));
        Set<String> have = new TreeSet<>();
        for (Method m : DeskRings.class.getDeclaredMethods()) {
            if (!Modifier.isPrivate(m.getModifiers())) {
                String types = Arrays.stream(m.getParameterTypes()).map(Class::getName).collect(Collectors.joining(","));
                have.add(m.getReturnType().getName() + " " + m.getName() + "(" + types + ")");
                C.due(m.getName() + " is public and no static one", m.getModifiers(), Modifier.PUBLIC);
            }
        }
        C.due("the face has " + have + ", not " + want, have.equals(want), true);
        C.due("the class", DeskRings.class.getModifiers(), Modifier.PUBLIC | Modifier.FINAL);
        for (Constructor<?> made : DeskRings.class.getDeclaredConstructors()) {
            C.due("the constructor", made.getModifiers() == Modifier.PUBLIC && made.getParameterCount() == 0, true);
        }
    }

    private static void members() {
        Set<String> names = Arrays.stream(FACE.split(";")).map(m -> m.replaceAll(".* |\\(.*", ""))
                .collect(Collectors.toSet());
        for (Field f : DeskRings.class.getDeclaredFields()) {
            boolean isNone = f.getName().equals("NONE");
            C.due("field " + f.getName(), Modifier.isPrivate(f.getModifiers()) != isNone, true);
        }
        int classes = 1;
        for (Class<?> inside : DeskRings.class.getDeclaredClasses()) {
            classes++;
            C.due(inside + " is static", Modifier.isStatic(inside.getModifiers()), true);
            for (Method m : inside.getDeclaredMethods()) {
                C.due(inside + " has " + m.getName(), names.contains(m.getName()), false);
                C.due(m + " takes seven at most", m.getParameterCount() <= 7, true);
            }
            int own = 0;
            for (Field f : inside.getDeclaredFields()) {
                own += Modifier.isStatic(f.getModifiers()) ? 0 : 1;
                C.due(f + " is no static state", !Modifier.isStatic(f.getModifiers())
                        || Modifier.isFinal(f.getModifiers()), true);
            }
            C.due(inside + " has few fields", own <= 20, true);
        }
        C.due("few classes", classes <= 12, true);
    }

    private static void source() throws IOException {
        String whole = Files.readString(Path.of("src/main/java/DeskRings.java"));
        String code = whole.replaceAll("(?s)/\\*.*?\\*/", "").replaceAll("//[^\n]*", "").replaceAll("\"[^\"\n]*\"", "\"\"");
        for (String word : new String[] {"throw", "throws", "try", "catch", "finally", "synchronized", "assert", "import",
            "package", "var", "enum", "equals", "hashCode", "toString", "protected", "volatile", "transient"}) {
            C.due("no " + word, Pattern.compile("\\b" + word + "\\b").matcher(code).find(), false);
        }
        for (String sign : new String[] {"->", "::", "@", "Exact"}) {
            C.due("no " + sign, code.contains(sign), false);
        }
        Set<String> library = Set.of("System.arraycopy", "Math.abs", "Math.max", "Math.min", "Integer.bitCount");
        Matcher used = Pattern.compile("\\b(System|Math|Integer|Long|Arrays|Character)\\.\\w+").matcher(code);
        while (used.find()) {
            C.due(used.group() + " is of the library", library.contains(used.group()), true);
        }
        methodsAreShort(code);
    }

    private static void methodsAreShort(String code) {
        String[] lines = code.split("\n");
        int start = -1;
        String indent = "";
        for (int i = 0; i < lines.length; i++) {
            Matcher head = Pattern.compile("^( +)(?!.*\\b(class|if|for|while|switch|else)\\b)[\\w\\[\\] ]+\\([^;]*\\) \\{$")
                    .matcher(lines[i]);
            if (head.find()) {
                start = i;
                indent = head.group(1);
            } else if (start >= 0 && lines[i].equals(indent + "}")) {
                C.due("lines of " + lines[start].trim(), i - start + 1 <= 60, true);
                start = -1;
            }
        }
    }
}
