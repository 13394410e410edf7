import java.io.IOException;
import java.lang.reflect.Constructor;
import java.lang.reflect.Field;
import java.lang.reflect.Method;
import java.lang.reflect.Modifier;
import java.nio.file.Files;
import java.nio.file.Path;
import java.util.Arrays;
import java.util.List;
import java.util.Map;
import java.util.Set;
import java.util.TreeMap;
import java.util.TreeSet;
import java.util.regex.Matcher;
import java.util.regex.Pattern;

/** The public face of the document, and what of LANGUAGE.md a look at the source can tell. */
final class FormTest {
    private static final List<String> FACE = List.of("int feed(int,int,int,int,int)", "boolean end(int)", "int fault()", "int land()",
        "int sort(int,int)", "int back(int,int,int)", "int lent(int,int)", "int brought(int)", "int moon(int,int,int)",
        "int best(int)", "int gains(int)", "boolean seed(int)", "int lend(int,int,int,int)", "int go(int)", "int market(int)",
        "int loan(int,int)", "int entry(int,int,int)", "int clear()", "int judge(int)", "int holds(int,int,int)",
        "int greatest(int,int)", "int names(int,int)", "int round(int,int)", "int words(int,int)", "int purse(int,int)",
        "int part(int,int,int)", "int shrunk(int,int,int,int)", "int cloudy(int,int)", "boolean image(int)", "boolean on(int)",
        "int count(int)");
    private static final String[] BANNED = {"throw", "throws", "try", "catch", "synchronized", "assert", "protected", "instanceof",
        "Integer.MAX_VALUE", "Object", "hashCode", "toString", "Exact"};
    private static final Set<String> LIBRARY = Set.of("Math.min", "Math.max", "Arrays.fill", "System.arraycopy", "Integer.bitCount");
    private static final Check CHECK = new Check();

    public static void main(String[] args) throws IOException {
        face();
        for (Class<?> inner : MoonDebts.class.getDeclaredClasses()) {
            inside(inner);
        }
        inside(MoonDebts.class);
        source(Files.readString(Path.of("src/main/java/MoonDebts.java")));
        CHECK.finish();
    }

    private static void face() {
        Set<String> seen = new TreeSet<>();
        Set<String> publicNames = new TreeSet<>();
        for (Method m : MoonDebts.class.getDeclaredMethods()) {
            if (Modifier.isPublic(m.getModifiers())) {
                StringBuilder row = new StringBuilder(m.getReturnType() + " " + m.getName() + "(");
                for (Class<?> type : m.getParameterTypes()) {
                    row.append(row.charAt(row.length() - 1) == '(' ? "" : ",").append(type);
                }
                seen.add(row.append(')').toString());
                publicNames.add(m.getName());
            }
        }
        CHECK.yes("the methods of the face: " + seen, seen.equals(new TreeSet<>(FACE)));
        for (Method m : MoonDebts.class.getDeclaredMethods()) {
            boolean isPrivate = Modifier.isPrivate(m.getModifiers());
            CHECK.yes("public or private: " + m, isPrivate || Modifier.isPublic(m.getModifiers()));
            CHECK.no("a private method with a public name: " + m, isPrivate && publicNames.contains(m.getName()));
        }
        for (Field f : MoonDebts.class.getDeclaredFields()) {
            CHECK.yes("public or private: " + f, f.getName().equals("NONE") == Modifier.isPublic(f.getModifiers()));
            CHECK.yes("public or private: " + f, f.getName().equals("NONE") != Modifier.isPrivate(f.getModifiers()));
        }
        Constructor<?>[] made = MoonDebts.class.getDeclaredConstructors();
        CHECK.same("constructors", made.length, 1);
        CHECK.yes("a public one", Modifier.isPublic(made[0].getModifiers()) && made[0].getParameterCount() == 0);
        CHECK.yes("public and final", (MoonDebts.class.getModifiers() & (Modifier.PUBLIC | Modifier.FINAL))
            == (Modifier.PUBLIC | Modifier.FINAL));
        CHECK.yes("at most twelve classes", MoonDebts.class.getDeclaredClasses().length < 12);
        for (Class<?> inner : MoonDebts.class.getDeclaredClasses()) {
            CHECK.yes("static and private: " + inner, Modifier.isStatic(inner.getModifiers()) && Modifier.isPrivate(inner.getModifiers()));
        }
    }

    /** What rules 1, 3, 5 and 11 say of the members of a class. */
    private static void inside(Class<?> type) {
        int fields = 0;
        for (Field f : type.getDeclaredFields()) {
            int modifiers = f.getModifiers();
            fields += Modifier.isStatic(modifiers) ? 0 : 1;
            CHECK.yes("a static field is final: " + f, !Modifier.isStatic(modifiers) || Modifier.isFinal(modifiers));
            Class<?> part = f.getType().isArray() ? f.getType().getComponentType() : f.getType();
            boolean own = part.getName().startsWith("MoonDebts") && !Modifier.isStatic(modifiers);
            CHECK.yes("its type: " + f, own || part == int.class || part == boolean.class || part == byte.class);
        }
        CHECK.yes("some twenty fields: " + type, fields <= 20);
        for (Method m : type.getDeclaredMethods()) {
            CHECK.yes("at most seven parameters: " + m, m.getParameterCount() <= 7);
            boolean named = FACE.stream().anyMatch(row -> row.contains(" " + m.getName() + "("));
            CHECK.yes("no other method bears a public name: " + m, !named || Modifier.isPublic(m.getModifiers()));
        }
    }

    /** What stands in the methods of each name; methods of one name in two classes are told together. */
    private static Map<String, String> methodsStayShort(String code) {
        String[] lines = code.split("\n");
        Map<String, String> bodies = new TreeMap<>();
        int begun = -1;
        String close = "";
        String name = "";
        for (int i = 0; i < lines.length; i++) {
            Matcher head = Pattern.compile("^( {4}| {8})(?! )[\\w\\[\\] ]*?(\\w+)\\([^;]*\\) \\{$").matcher(lines[i]);
            if (begun < 0 && head.find() && !lines[i].contains(" class ")) {
                begun = i;
                close = head.group(1) + "}";
                name = head.group(2);
            } else if (begun >= 0 && lines[i].equals(close)) {
                CHECK.yes("some sixty lines: " + lines[begun], i - begun < 60);
                bodies.merge(name, String.join("\n", Arrays.copyOfRange(lines, begun + 1, i)), String::concat);
                begun = -1;
            }
        }
        CHECK.same("each method has an end", begun, -1);
        return bodies;
    }

    /** How deep the calls go from a method on, it and those of the library among them; a recursion has no end but most. */
    private static int depth(Map<String, String> bodies, String name, int most) {
        int deepest = 0;
        for (Matcher call = Pattern.compile("\\b(?<!new )([a-z]\\w*)\\(").matcher(bodies.getOrDefault(name, "")); call.find();) {
            if (deepest < most) {
                deepest = Math.max(deepest, depth(bodies, call.group(1), most - 1));
            }
        }
        return deepest + 1;
    }

    private static void source(String text) {
        String code = text.replaceAll("(?s)/\\*.*?\\*/", "").replaceAll("//[^\n]*", "");
        for (String word : BANNED) {
            CHECK.no("the word " + word, code.matches("(?s).*\\b" + word.replace(".", "\\.") + "\\b.*"));
        }
        CHECK.no("a lambda or a method reference", code.contains("->") || code.contains("::"));
        CHECK.no("texts joined by +", code.matches("(?s).*(\"\\s*\\+|\\+\\s*\").*"));
        for (Matcher call = Pattern.compile("\\b([A-Z]\\w*)\\.([a-z]\\w*)\\(").matcher(code); call.find();) {
            boolean own = call.group(1).equals("Sowing");
            CHECK.yes("a call of the library: " + call.group(), own || LIBRARY.contains(call.group(1) + "." + call.group(2)));
        }
        Map<String, String> bodies = methodsStayShort(code);
        for (String row : FACE) {
            String name = row.substring(row.indexOf(' ') + 1, row.indexOf('('));
            CHECK.yes("the source of " + row, bodies.containsKey(name));
            CHECK.yes("calls go at most eight deep: " + row, depth(bodies, name, 12) <= 8);
        }
        CHECK.same("imports", code.split("import ", -1).length - 1, 1);
        CHECK.yes("import of Arrays", code.contains("import java.util.Arrays;"));
        CHECK.yes("signs 0 to 127", text.chars().allMatch(sign -> sign < 128));
    }
}
