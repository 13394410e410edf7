import java.io.IOException;
import java.lang.reflect.Constructor;
import java.lang.reflect.Field;
import java.lang.reflect.Method;
import java.lang.reflect.Modifier;
import java.nio.file.Files;
import java.nio.file.Path;
import java.util.List;
import java.util.Set;
import java.util.TreeSet;

/** The public face of the document, and what of LANGUAGE.md a look at the source can tell. */
final class FormTest {
    private static final List<String> FACE = List.of("int feed(int,int,int,int,int)", "boolean end(int)", "int fault()", "int land()",
        "int sort(int,int)", "int back(int,int,int)", "int lent(int,int)", "int brought(int)", "int moon(int,int,int)",
        "int best(int)", "int gains(int)", "boolean seed(int)", "int lend(int,int,int,int)", "int go(int)", "int market(int)",
        "int loan(int,int)", "int entry(int,int,int)", "int clear()", "int judge(int)", "int holds(int,int,int)",
        "int greatest(int,int)", "int names(int,int)", "int round(int,int)", "int words(int,int)", "int purse(int,int)",
        "int part(int,int,int)", "int shrunk(int,int,int,int)", "int cloudy(int,int)", "boolean image(int)", "boolean on(int)",
        "int count(int)");
    private static final String[] BANNED = {"throw", "throws", "try", "catch", "synchronized", "assert", "protected", "instanceof",
        "Integer.MAX_VALUE", "Object", "hashCode", "toString", "Exact"};
    private static final Check CHECK = new Check();

    public static void main(String[] args) throws IOException {
        face();
        source(Files.readString(Path.of("src/main/java/MoonDebts.java")));
        CHECK.finish();
    }

    private static void face() {
        Set<String> seen = new TreeSet<>();
        Set<String> publicNames = new TreeSet<>();
        for (Method m : MoonDebts.class.getDeclaredMethods()) {
            if (Modifier.isPublic(m.getModifiers())) {
                StringBuilder row = new StringBuilder(m.getReturnType() + " " + m.getName() + "(");
                for (Class<?> type : m.getParameterTypes()) {
                    row.append(row.charAt(row.length() - 1) == '(' ? "" : ",").append(type);
                }
                seen.add(row.append(')').toString());
                publicNames.add(m.getName());
            }
        }
        CHECK.yes("the methods of the face: " + seen, seen.equals(new TreeSet<>(FACE)));
        for (Method m : MoonDebts.class.getDeclaredMethods()) {
            boolean isPrivate = Modifier.isPrivate(m.getModifiers());
            CHECK.yes("public or private: " + m, isPrivate || Modifier.isPublic(m.getModifiers()));
            CHECK.no("a private method with a public name: " + m, isPrivate && publicNames.contains(m.getName()));
        }
        for (Field f : MoonDebts.class.getDeclaredFields()) {
            CHECK.yes("public or private: " + f, f.getName().equals("NONE") == Modifier.isPublic(f.getModifiers()));
            CHECK.yes("public or private: " + f, f.getName().equals("NONE") != Modifier.isPrivate(f.getModifiers()));
        }
        Constructor<?>[] made = MoonDebts.class.getDeclaredConstructors();
        CHECK.same("constructors", made.length, 1);
        CHECK.yes("a public one", Modifier.isPublic(made[0].getModifiers()) && made[0].getParameterCount() == 0);
        CHECK.yes("public and final", (MoonDebts.class.getModifiers() & (Modifier.PUBLIC | Modifier.FINAL))
            == (Modifier.PUBLIC | Modifier.FINAL));
        CHECK.yes("at most twelve classes", MoonDebts.class.getDeclaredClasses().length < 12);
        for (Class<?> inner : MoonDebts.class.getDeclaredClasses()) {
            CHECK.yes("static and private: " + inner, Modifier.isStatic(inner.getModifiers()) && Modifier.isPrivate(inner.getModifiers()));
            CHECK.yes("some twenty fields: " + inner, inner.getDeclaredFields().length <= 24);
        }
    }

    private static void source(String text) {
        String code = text.replaceAll("(?s)/\\*.*?\\*/", "").replaceAll("//[^\n]*", "");
        for (String word : BANNED) {
            CHECK.no("the word " + word, code.matches("(?s).*\\b" + word.replace(".", "\\.") + "\\b.*"));
        }
        CHECK.no("a lambda or a method reference", code.contains("->") || code.contains("::"));
        CHECK.no("texts joined by +", code.matches("(?s).*(\"\\s*\\+|\\+\\s*\").*"));
        CHECK.same("imports", code.split("import ", -1).length - 1, 1);
        CHECK.yes("import of Arrays", code.contains("import java.util.Arrays;"));
        CHECK.yes("signs 0 to 127", text.chars().allMatch(sign -> sign < 128));
    }
}
