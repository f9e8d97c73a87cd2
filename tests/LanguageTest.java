import java.io.IOException;
import java.lang.reflect.Modifier;
import java.nio.file.Files;
import java.nio.file.Path;
import java.util.ArrayList;
import java.util.Arrays;
import java.util.List;
import java.util.TreeSet;
import java.util.regex.Matcher;
import java.util.regex.Pattern;

/** What of ../shared/LANGUAGE.md can be read off the source and the class: words, library, face and lengths. */
public final class LanguageTest {
    private static final String FACE = "back best board count define feed game image line load longest make move "
        + "positions search setup spread undo unlike zugzwang";
    private static final String[] FORBIDDEN = {"throw", "throws", "try", "catch", "finally", "synchronized", "assert",
        "volatile", "transient", "native", "record", "protected", "enum", "System\\.(?!arraycopy)", "->", "::",
        "\\w+Exact", "Random", "Thread", "Object", "equals", "hashCode", "toString", "nanoTime", "NaN", "goto"};

    public static void main(String[] args) throws IOException {
        String source = Files.readString(Path.of("src/main/java/EndgameTable.java"));
        String code = source.replaceAll("(?s)/\\*.*?\\*/", "").replaceAll("//[^\n]*", "").replaceAll("\"[^\"\n]*\"", "\"\"");
        words(code);
        face();
        lengths(source);
        Check.end("LanguageTest");
    }

    private static void words(String code) {
        for (String word : FORBIDDEN) {
            String bounded = Character.isLetter(word.charAt(0)) ? "\\b" + word : word;
            Matcher found = Pattern.compile(bounded + (word.matches("\\w+") ? "\\b" : "")).matcher(code);
            Check.holds("without " + word, !found.find());
        }
        Matcher imports = Pattern.compile("import ([^;]+);").matcher(code);
        while (imports.find()) Check.holds("import " + imports.group(1), imports.group(1).equals("java.util.Arrays"));
        Check.holds("no package", !code.contains("package "));
        Matcher statics = Pattern.compile("\\bstatic (?!final\\b|\\w+ class\\b)[\\w\\[\\]]+ \\w+ *[;=]").matcher(code);
        Check.holds("no static state", !statics.find());
    }

    private static void face() {
        TreeSet<String> names = new TreeSet<>();
        Arrays.stream(EndgameTable.class.getDeclaredMethods()).filter(m -> !Modifier.isPrivate(m.getModifiers()))
            .forEach(m -> names.add(m.getName()));
        Check.holds("the methods " + names, String.join(" ", names).equals(FACE));
        TreeSet<String> fields = new TreeSet<>();
        Arrays.stream(EndgameTable.class.getDeclaredFields()).filter(f -> !Modifier.isPrivate(f.getModifiers()))
            .forEach(f -> fields.add(f.getName()));
        Check.holds("the constants " + fields, fields.toString().equals("[BAD, FULL, NONE, STATE]"));
        List<String> own = new ArrayList<>();
        for (Class<?> inside : EndgameTable.class.getDeclaredClasses()) {
            Check.holds(inside.getName() + " is static", Modifier.isStatic(inside.getModifiers()));
            long rows = Arrays.stream(inside.getDeclaredFields()).filter(f -> !Modifier.isStatic(f.getModifiers())).count();
            Check.holds(inside.getName() + " has " + rows + " fields", rows <= 20);
            Arrays.stream(inside.getDeclaredMethods()).forEach(m -> own.add(m.getName()));
        }
        Arrays.stream(EndgameTable.class.getDeclaredMethods()).filter(m -> Modifier.isPrivate(m.getModifiers()))
            .forEach(m -> own.add(m.getName()));
        for (String name : FACE.split(" ")) Check.holds("no other method bears the name " + name, !own.contains(name));
        Check.holds("few classes", EndgameTable.class.getDeclaredClasses().length <= 12);
    }

    /** A method stands between a line that opens it and the next brace of the same depth. */
    private static void lengths(String source) {
        String[] lines = source.split("\n");
        for (int i = 0; i < lines.length; i++) {
            Check.holds("line " + (i + 1) + " has no tab and is short", !lines[i].contains("\t") && lines[i].length() <= 120);
            if (!lines[i].matches(" {4,8}\\S.*\\) \\{")) continue;
            String close = lines[i].substring(0, lines[i].length() - lines[i].stripLeading().length()) + "}";
            int end = i;
            while (end < lines.length && !lines[end].equals(close)) end++;
            Check.holds("the method of line " + (i + 1) + " is short", end - i <= 60);
        }
    }
}
