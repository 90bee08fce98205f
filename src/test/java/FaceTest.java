import java.lang.reflect.Constructor;
import java.lang.reflect.Field;
import java.lang.reflect.Method;
import java.lang.reflect.Modifier;
import java.nio.charset.StandardCharsets;
import java.nio.file.Files;
import java.nio.file.Path;
import java.util.Arrays;
import java.util.Set;
import java.util.TreeSet;
import java.util.regex.Matcher;
import java.util.regex.Pattern;

/** The public face, and those rules of LANGUAGE.md that can be read from names and words. */
public final class FaceTest {
    private static final Due DUE = new Due();

    private static final String[] FACE = {
        "int thing(int,int,int)", "int thingIs(int,int)", "int till(int,int)", "int tillIs(int,int)",
        "int as(int,int)", "int figures(int,int)", "int asks(int,int,int)", "int feed(long,int)",
        "int text(int)", "int untell(int)", "int basket(int,int)", "int pays(int,int)", "int go(int,int)",
        "int draws(int)", "int seed(int)", "int more(int,int,int,int)", "int inTwo(int,int)",
        "int together(int,int,int)", "int worth(int,int,int)", "int dearer(int,int,int)", "int nines(int)",
        "long erring(int,int,int,int)", "int wasIn(int,int,int)", "int voice(int,int,int)", "int body(int)",
        "int sheet(int,int,int)", "int put(int,int,int)", "int move(int,int,int,int,int)", "int prices(int)",
        "int image()", "int restore()", "int tell(int)", "int check(int)", "int count(int)", "int told(int)"};

    private static final String[] BANNED = {"throw", "throws", "try", "catch", "synchronized", "assert", "import",
        "package", "float", "double", "->", "::", "protected", "instanceof", "var", "transient", "volatile",
        "native", "toString", "hashCode", "Exact", "System\\.(?!arraycopy)", "Object", "null"};

    public static void main(String[] args) throws Exception {
        face();
        members(FigureTill.class, true);
        for (Class<?> inside : FigureTill.class.getDeclaredClasses()) {
            DUE.is(inside + " is static", Modifier.isStatic(inside.getModifiers()) ? 1 : 0, 1);
            DUE.is(inside + " is not public", Modifier.isPublic(inside.getModifiers()) ? 1 : 0, 0);
            members(inside, false);
        }
        DUE.is("twelve classes at most", FigureTill.class.getDeclaredClasses().length < 12 ? 1 : 0, 1);
        words();
        DUE.end();
    }

    private static void face() {
        Set<String> due = new TreeSet<>(Arrays.asList(FACE));
        Set<String> is = new TreeSet<>();
        for (Method m : FigureTill.class.getDeclaredMethods()) {
            if (Modifier.isPublic(m.getModifiers())) {
                is.add(told(m));
            }
        }
        DUE.is("acts", is.size(), due.size());
        for (String act : due) {
            DUE.is(act, is.contains(act) ? 1 : 0, 1);
        }
        DUE.is("final", Modifier.isFinal(FigureTill.class.getModifiers()) ? 1 : 0, 1);
        Constructor<?>[] made = FigureTill.class.getDeclaredConstructors();
        DUE.is("one constructor", made.length, 1);
        DUE.is("without numbers", made[0].getParameterCount(), 0);
        DUE.is("public", Modifier.isPublic(made[0].getModifiers()) ? 1 : 0, 1);
    }

    private static String told(Method m) {
        StringBuilder text = new StringBuilder(m.getReturnType().getName() + " " + m.getName() + "(");
        for (Class<?> type : m.getParameterTypes()) {
            text.append(text.charAt(text.length() - 1) == '(' ? "" : ",").append(type.getName());
        }
        return text.append(")").toString();
    }

    private static void members(Class<?> of, boolean outer) {
        Set<String> names = new TreeSet<>();
        for (String act : FACE) {
            names.add(act.substring(act.indexOf(' ') + 1, act.indexOf('(')));
        }
        int fields = 0;
        for (Field f : of.getDeclaredFields()) {
            boolean isStatic = Modifier.isStatic(f.getModifiers());
            fields += isStatic ? 0 : 1;
            DUE.is(f + " is final", isStatic && !Modifier.isFinal(f.getModifiers()) ? 1 : 0, 0);
            DUE.is(f + " is private", outer && !Modifier.isPrivate(f.getModifiers()) ? 1 : 0, 0);
        }
        DUE.is(of + " has some twenty fields", fields <= 20 ? 1 : 0, 1);
        for (Method m : of.getDeclaredMethods()) {
            boolean isFace = outer && Modifier.isPublic(m.getModifiers());
            DUE.is(m + " is private", outer && !isFace && !Modifier.isPrivate(m.getModifiers()) ? 1 : 0, 0);
            DUE.is(m + " bears no public name", !isFace && names.contains(m.getName()) ? 1 : 0, 0);
            DUE.is(m + " takes seven at most", m.getParameterCount() <= 7 ? 1 : 0, 1);
        }
    }

    private static void words() throws Exception {
        byte[] bytes = Files.readAllBytes(Path.of("src/main/java/FigureTill.java"));
        String source = new String(bytes, StandardCharsets.ISO_8859_1);
        for (int i = 0; i < source.length(); i++) {
            DUE.is("a sign of ASCII at " + i, source.charAt(i) < 127 ? 1 : 0, 1);
        }
        String code = source.replaceAll("(?s)/\\*.*?\\*/|//[^\n]*", "");
        for (String word : BANNED) {
            boolean isWord = Character.isLetter(word.charAt(0));
            Matcher found = Pattern.compile(isWord ? "\\b" + word + (word.endsWith(")") ? "" : "\\b") : word).matcher(code);
            DUE.is("there is no " + word, found.find() ? 1 : 0, 0);
        }
    }
}
