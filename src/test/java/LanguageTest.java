import java.io.IOException;
import java.lang.reflect.Constructor;
import java.lang.reflect.Field;
import java.lang.reflect.Method;
import java.lang.reflect.Modifier;
import java.nio.charset.StandardCharsets;
import java.nio.file.Files;
import java.nio.file.Path;
import java.util.ArrayList;
import java.util.Arrays;
import java.util.List;
import java.util.Set;
import java.util.TreeSet;
import java.util.regex.Matcher;
import java.util.regex.Pattern;

/** The face is the document's, and the file keeps to what of LANGUAGE.md can be seen in it. */
public final class LanguageTest {
    private static final String FACE = "feed5 end1 told1 fault1 count1 look2 near2 line3 far3 row2 place2"
            + " value2 price3 worst2 longest1 least2 best3 ways2 within3 firsts2 bound3 minor1 among3"
            + " split3 halve1 bag3 filled2 gain4 swaps3 moves3 reverse1 takes2 polish2 polished2 greedy2"
            + " layers2 adds4 cuts3 merges3 drops1 undo0 tell2 octet1";
    private static final List<String> LIBRARY = List.of("Integer.bitCount", "Math.max", "Math.min",
            "Math.abs", "Arrays.fill", "System.arraycopy");

    private static int wrong;

    private LanguageTest() {
    }

    private static void must(boolean holds, String what) {
        if (!holds) {
            wrong++;
            System.out.println("LanguageTest: " + what);
        }
    }

    private static void face() {
        Set<String> due = new TreeSet<>(Arrays.asList(FACE.split(" ")));
        Set<String> found = new TreeSet<>();
        for (Method m : ThinRow.class.getDeclaredMethods()) {
            if (!Modifier.isPrivate(m.getModifiers())) {
                must(m.getModifiers() == Modifier.PUBLIC, m + " is not just public");
                must(m.getReturnType() == int.class, m + " answers no int");
                for (Class<?> type : m.getParameterTypes()) {
                    must(type == int.class, m + " takes no int");
                }
                found.add(m.getName() + m.getParameterCount());
            }
        }
        must(found.equals(due), "the face is " + found);
        Constructor<?>[] made = ThinRow.class.getDeclaredConstructors();
        must(made.length == 1 && made[0].getModifiers() == Modifier.PUBLIC
                && made[0].getParameterCount() == 0, "the constructor");
        for (Field f : ThinRow.class.getDeclaredFields()) {
            boolean isNone = f.getName().equals("NONE");
            must(isNone == !Modifier.isPrivate(f.getModifiers()), f + " is seen");
        }
        must(Modifier.isFinal(ThinRow.class.getModifiers()), "the class is not final");
    }

    private static void classes() {
        Set<String> names = new TreeSet<>();
        for (Method m : ThinRow.class.getDeclaredMethods()) {
            if (Modifier.isPublic(m.getModifiers())) {
                names.add(m.getName());
            }
        }
        List<Class<?>> all = new ArrayList<>(List.of(ThinRow.class.getDeclaredClasses()));
        must(all.size() <= 11, "there are " + all.size() + " classes inside");
        for (Class<?> inside : all) {
            must(Modifier.isStatic(inside.getModifiers()), inside + " is not static");
            for (Method m : inside.getDeclaredMethods()) {
                must(!names.contains(m.getName()), m + " bears the name of a public one");
            }
        }
        all.add(ThinRow.class);
        for (Class<?> one : all) {
            int fields = 0;
            for (Field f : one.getDeclaredFields()) {
                boolean isStatic = Modifier.isStatic(f.getModifiers());
                must(!isStatic || Modifier.isFinal(f.getModifiers()), f + " is static and not final");
                fields += isStatic ? 0 : 1;
            }
            must(fields <= 20, one + " has " + fields + " fields");
            for (Method m : one.getDeclaredMethods()) {
                must(m.getParameterCount() <= 7, m + " takes too many");
                boolean isPrivate = Modifier.isPrivate(m.getModifiers());
                must(!isPrivate || !names.contains(m.getName()), m + " bears the name of a public one");
            }
        }
    }

    /** The source without comments, texts and signs. */
    private static String bare(String source) {
        return source.replaceAll("(?s)/\\*.*?\\*/", "").replaceAll("//[^\n]*", "")
                .replaceAll("\"[^\"\n]*\"", "\"\"").replaceAll("'[^'\n]+'", "' '");
    }

    private static void words(String source) {
        String code = bare(source);
        for (String word : List.of("throw", "throws", "try", "catch", "synchronized", "assert", "package",
                "double", "float", "Object", "var", "goto", "native", "volatile", "transient", "values")) {
            must(!Pattern.compile("\\b" + word + "\\b").matcher(code).find(), "the word " + word);
        }
        must(!code.contains("->") && !code.contains("::"), "a lambda or a reference to a method");
        must(source.chars().allMatch(c -> c == '\n' || c >= 32 && c < 127), "a sign that is not plain");
        Matcher imports = Pattern.compile("import ([^;]+);").matcher(code);
        while (imports.find()) {
            must(imports.group(1).equals("java.util.Arrays"), "import of " + imports.group(1));
        }
        Matcher calls = Pattern.compile("\\b(Integer|Long|Math|Arrays|System|String|Character)\\.\\w+")
                .matcher(code);
        while (calls.find()) {
            must(calls.group().equals("util.Arrays") || LIBRARY.contains(calls.group()),
                    "the library's " + calls.group());
        }
        must(!Pattern.compile("\\[\\]\\[\\]").matcher(code).find(), "an array of two dimensions");
    }

    /** Things are made in constructors and beside fields alone, so that calls make none. */
    private static void nothingMadeInCalls(String source) {
        String[] lines = bare(source).split("\n");
        Pattern head = Pattern.compile("^ +(?:\\w+ )*?(\\w+)\\([^;]*\\) \\{$");
        String method = "";
        int start = 0;
        for (int i = 0; i < lines.length; i++) {
            Matcher m = head.matcher(lines[i]);
            if (m.matches() && !List.of("if", "for", "while", "switch").contains(m.group(1))) {
                method = m.group(1);
                start = i;
            }
            if (lines[i].matches(" {4}\\}| {8}\\}")) {
                must(i - start < 60 || method.isEmpty(), method + " is too long");
                method = "";
            }
            if (lines[i].contains("new ")) {
                must(method.isEmpty() || Character.isUpperCase(method.charAt(0)), method + " makes something");
            }
        }
    }

    public static void main(String[] args) throws IOException {
        String source = Files.readString(Path.of("src/main/java/ThinRow.java"), StandardCharsets.ISO_8859_1);
        face();
        classes();
        words(source);
        nothingMadeInCalls(source);
        System.out.println("LanguageTest: " + wrong + " rules broken");
        if (wrong > 0) {
            System.exit(1);
        }
    }
}
