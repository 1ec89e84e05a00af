import java.io.IOException;
import java.lang.reflect.Field;
import java.lang.reflect.Method;
import java.lang.reflect.Modifier;
import java.nio.file.Files;
import java.nio.file.Path;
import java.util.ArrayList;
import java.util.Arrays;
import java.util.List;
import java.util.regex.Matcher;
import java.util.regex.Pattern;

/** What can be looked at by machine of the rules in LANGUAGE.md, and the document's public face. */
public final class LanguageTest {
    private static final String FACE = "again(int)boolean best(int,int)int breach(int)int clash(int,int)boolean colour(int)int "
            + "compare(int,int,int,int,int,int)int count(int)int cover(int)int day(int)boolean "
            + "echo(int,int,int,int,int)int end(int)int fault(int)int feed(int,int,int,int,int)int heard(int,int)int "
            + "image(int)boolean law()int place(int)int places()int pull(boolean,int)boolean sees(int,int,int)boolean "
            + "sender(int,int)int served(int)int serves(int,int)int set(int,int)boolean signal(int,int,int)int "
            + "span(int,int,int)boolean step(int,int)int stuff(int,int,int)boolean town()int unwalk()void view(int)boolean "
            + "walk(int)int wall(int,int)int way(int,int,int,int,int)int ways(int,int,int)int why(int,int)int";

    private static final Checks CHECKS = new Checks();

    public static void main(String[] args) throws IOException {
        String source = Files.readString(Path.of("src/main/java/StreetWaves.java"));
        face();
        members();
        words(stripped(source));
        lengths(stripped(source));
        CHECKS.finish();
    }

    private static void none(String what, List<String> found) {
        CHECKS.due(what + " " + found, found.size(), 0);
    }

    private static void face() {
        Class<?> type = StreetWaves.class;
        List<String> found = new ArrayList<>();
        for (Method method : type.getDeclaredMethods()) {
            if (!Modifier.isPrivate(method.getModifiers())) {
                StringBuilder told = new StringBuilder(method.getName()).append('(');
                for (Class<?> parameter : method.getParameterTypes()) {
                    told.append(told.charAt(told.length() - 1) == '(' ? "" : ",").append(parameter);
                }
                found.add(told.append(')').append(method.getReturnType()).toString());
            }
        }
        List<String> due = Arrays.asList(FACE.split(" "));
        none("not in the face", found.stream().filter(f -> !due.contains(f)).toList());
        none("missing in the face", due.stream().filter(f -> !found.contains(f)).toList());
        none("other fields seen", Arrays.stream(type.getDeclaredFields())
                .filter(f -> !Modifier.isPrivate(f.getModifiers()) && !f.getName().equals("NONE")).map(Field::getName).toList());
        CHECKS.due("constructors", type.getConstructors().length, 1);
        CHECKS.due("final", Modifier.isFinal(type.getModifiers()), true);
    }

    private static void members() {
        List<Class<?>> types = new ArrayList<>(Arrays.asList(StreetWaves.class.getDeclaredClasses()));
        types.add(StreetWaves.class);
        CHECKS.due("at most twelve classes", types.size() <= 12, true);
        for (Class<?> type : types) {
            boolean outer = type == StreetWaves.class;
            CHECKS.due("static: " + type, outer || Modifier.isStatic(type.getModifiers()), true);
            for (Method method : type.getDeclaredMethods()) {
                CHECKS.due("at most seven parameters: " + method, method.getParameterCount() <= 7, true);
                boolean shadows = !(outer && Modifier.isPublic(method.getModifiers()))
                        && Arrays.stream(FACE.split(" ")).anyMatch(f -> f.startsWith(method.getName() + "("));
                CHECKS.due("bears the name of a public one: " + method, shadows, false);
            }
            long fields = Arrays.stream(type.getDeclaredFields()).filter(f -> !Modifier.isStatic(f.getModifiers())).count();
            CHECKS.due("some twenty fields: " + type, fields <= 20, true);
            for (Field field : type.getDeclaredFields()) {
                boolean loose = Modifier.isStatic(field.getModifiers()) && !Modifier.isFinal(field.getModifiers());
                CHECKS.due("static state: " + field, loose, false);
            }
        }
    }

    private static String stripped(String source) {
        return source.replaceAll("(?s)/\\*.*?\\*/", "").replaceAll("//[^\n]*", "")
                .replaceAll("\"[^\"\n]*\"", "\"\"").replaceAll("'\\\\?.'", "0");
    }

    private static void words(String source) {
        Pattern forbidden = Pattern.compile("\\b(throw|throws|try|catch|finally|synchronized|assert|package|import|protected|"
                + "volatile|transient|native|float|double|hashCode|toString|System\\.(?!arraycopy)\\w+|\\w+Exact|Random|Thread)\\b|->|::");
        Matcher matcher = forbidden.matcher(source);
        List<String> found = new ArrayList<>();
        while (matcher.find()) {
            found.add(matcher.group());
        }
        none("words outside of the language", found);
        none("characters outside of it", source.chars().filter(c -> c > 126 || c < 32 && c != '\n').mapToObj(Integer::toString).toList());
    }

    private static void lengths(String source) {
        String[] lines = source.split("\n", -1);
        int start = 0;
        for (int k = 0; k < lines.length; k++) {
            if (lines[k].matches(" {4}( {4})?[A-Za-z].*\\(.*\\{")) {
                start = k;
            }
            if (lines[k].matches(" {4}( {4})?\\}")) {
                CHECKS.due("some sixty lines at line " + (start + 1), k - start <= 60 || lines[k].equals("    }"), true);
            }
        }
    }
}
