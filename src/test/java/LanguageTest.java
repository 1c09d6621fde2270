import java.nio.file.Files;
import java.nio.file.Path;
import java.lang.reflect.Constructor;
import java.lang.reflect.Field;
import java.lang.reflect.Method;
import java.lang.reflect.Modifier;
import java.util.ArrayList;
import java.util.List;
import java.util.Set;
import java.util.TreeSet;
import java.util.regex.Matcher;
import java.util.regex.Pattern;

/** What of ../shared/LANGUAGE.md can be seen from the file and the class: the face, words that are not to be used. */
public final class LanguageTest {
    private static final String FACE = "int places(int) int weather(int) int way(int,int,int,int,int) int of(int,int) "
            + "int change(int,int,int) int as(int,int) int thing(int,int) int alter(int,int,int) int its(int,int) "
            + "long ring(int) int ringWays() long lift(int,int) long worth(long) int raise(int) int lose() int kind(int) "
            + "int season() long tree(int) long walk(int,int,int) long load(int,int) long ratio(int,int,int) "
            + "int compare(int,int,int) long reduce(int,int) int add(int,int,int) int feed(int,int) int wipe() int text() "
            + "int sheet(int,int,int) int write(int,int,long) long read(int,int) int copy(int,int,int,int,int) int lays(int) "
            + "int image() int undo() int tear() int count(int) int status(int)";

    public static void main(String[] args) throws Exception {
        face();
        String code = withoutCommentsAndTexts(Files.readString(Path.of("src/main/java/RoundsPerHour.java")));
        words(code);
        lengths(code);
        Check.end(LanguageTest.class);
    }

    private static void face() {
        Set<String> want = new TreeSet<>(List.of(FACE.replace(") ", ")\n").split("\n")));
        Set<String> got = new TreeSet<>();
        Set<String> names = new TreeSet<>();
        for (Method m : RoundsPerHour.class.getDeclaredMethods()) {
            if (!Modifier.isPrivate(m.getModifiers())) {
                got.add(shape(m));
                names.add(m.getName());
                Check.due(m + " is public and no more", m.getModifiers(), Modifier.PUBLIC);
            }
        }
        Check.due("face " + got, got.equals(want) ? 1 : 0, 1);
        Check.due("class public and final", RoundsPerHour.class.getModifiers(), Modifier.PUBLIC | Modifier.FINAL);
        Check.due("constructors", RoundsPerHour.class.getDeclaredConstructors().length, 1);
        for (Constructor<?> c : RoundsPerHour.class.getDeclaredConstructors()) {
            Check.due("constructor " + c, c.getModifiers() == Modifier.PUBLIC && c.getParameterCount() == 0 ? 1 : 0, 1);
        }
        List<Class<?>> all = new ArrayList<>(List.of(RoundsPerHour.class.getDeclaredClasses()));
        Check.due("at most twelve classes", all.size() < 12 ? 1 : 0, 1);
        for (Class<?> inside : all) {
            Check.due(inside + " is static", Modifier.isStatic(inside.getModifiers()) ? 1 : 0, 1);
        }
        all.add(RoundsPerHour.class);
        for (Class<?> c : all) {
            members(c, names);
        }
    }

    private static void members(Class<?> c, Set<String> publicNames) {
        int own = 0;
        for (Field f : c.getDeclaredFields()) {
            boolean fixed = Modifier.isStatic(f.getModifiers());
            own += fixed ? 0 : 1;
            Check.due(f + " is final if static", !fixed || Modifier.isFinal(f.getModifiers()) ? 1 : 0, 1);
            boolean hidden = c != RoundsPerHour.class || Modifier.isPrivate(f.getModifiers());
            Check.due(f + " is private", hidden ? 1 : 0, 1);
        }
        Check.due(c + " has at most twenty fields", own <= 20 ? 1 : 0, 1);
        for (Method m : c.getDeclaredMethods()) {
            Check.due(m + " has at most seven parameters", m.getParameterCount() <= 7 ? 1 : 0, 1);
            boolean itsOwn = c == RoundsPerHour.class && Modifier.isPublic(m.getModifiers());
            Check.due(m + " bears a name of its own", itsOwn || !publicNames.contains(m.getName()) ? 1 : 0, 1);
        }
    }

    private static String shape(Method m) {
        StringBuilder sb = new StringBuilder(m.getReturnType().getSimpleName()).append(' ').append(m.getName()).append('(');
        for (int i = 0; i < m.getParameterCount(); i++) {
            sb.append(i == 0 ? "" : ",").append(m.getParameterTypes()[i].getSimpleName());
        }
        return sb.append(')').toString();
    }

    private static void words(String code) {
        String[] unwanted = {"\\bthrow\\b", "\\bthrows\\b", "\\btry\\b", "\\bcatch\\b", "\\bsynchronized\\b", "\\bassert\\b",
            "->", "::", "\\bimport\\b", "\\bpackage\\b", "Exact\\b", "\\bSystem\\.(?!arraycopy\\b)", "\\bThread\\b", "\\bRandom\\b",
            "\\bhashCode\\b", "\\btoString\\b", "\\bvar\\b", "static \\{", "\\bvolatile\\b", "\\bnative\\b"};
        for (String word : unwanted) {
            Matcher m = Pattern.compile(word).matcher(code);
            Check.due("word " + word, m.find() ? 1 : 0, 0);
        }
        Matcher library = Pattern.compile("\\b(Math|Long|Integer|Arrays|System|String)\\.(\\w+)").matcher(code);
        Set<String> may = Set.of("Math.min", "Math.max", "Math.floorDiv", "Long.compare", "Long.MIN_VALUE",
                "Integer.bitCount", "System.arraycopy");
        while (library.find()) {
            Check.due("library " + library.group(), may.contains(library.group()) ? 1 : 0, 1);
        }
        // What is made in a call would be counted: all rows are made where fields begin, and the sheets in the constructor.
        int made = 0;
        for (String line : code.split("\n")) {
            boolean field = line.matches("\\s+(private )?(static )?final [\\w\\[\\]]+ \\w+ = new .*");
            made += line.matches(".*\\bnew\\b.*") && !field ? 1 : 0;
        }
        Check.due("objects made elsewhere", made, 1);
        Check.due("signs are 1 to 127", code.chars().allMatch(c -> c > 0 && c < 128) ? 1 : 0, 1);
    }

    // A method ends where its brace closes in the column that it began in.
    private static void lengths(String code) {
        String[] lines = code.split("\n", -1);
        for (int i = 0; i < lines.length; i++) {
            Matcher m = Pattern.compile("( {4}| {8})(?!(private |abstract |static |final )*class)\\S.*\\) \\{").matcher(lines[i]);
            if (!m.matches()) continue;
            int end = i;
            while (end < lines.length && !lines[end].equals(m.group(1) + "}")) end++;
            Check.due("as long as may be: " + lines[i].trim(), end - i <= 60 ? 1 : 0, 1);
        }
    }

    private static String withoutCommentsAndTexts(String code) {
        return code.replaceAll("(?s)/\\*.*?\\*/", " ").replaceAll("//[^\n]*", " ").replaceAll("\"[^\"\n]*\"", "\"\"");
    }
}
