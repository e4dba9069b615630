import java.io.IOException;
import java.nio.file.Files;
import java.nio.file.Path;
import java.util.List;
import java.util.Set;
import java.util.regex.Matcher;
import java.util.regex.Pattern;

/** The rules of LANGUAGE.md that can be seen in the source's own signs. */
public final class LanguageTest {
    private static final Set<String> LIBRARY = Set.of("Arrays.fill", "Arrays.copyOf", "Arrays.copyOfRange", "System.arraycopy",
        "Integer.bitCount", "Math.max", "Math.min", "Math.abs");
    private static int wrong;

    private static void check(boolean holds, String what) {
        if (!holds) {
            wrong++;
            System.out.println(what);
        }
    }

    public static void main(String[] args) throws IOException {
        Path file = Path.of("src/main/java/WhyRoom.java");
        String source = Files.readString(file);
        String bare = source.replaceAll("(?s)/\\*.*?\\*/", "").replaceAll("//[^\n]*", "");
        check(source.chars().allMatch(c -> c == '\n' || c >= 32 && c < 127), "signs beyond 127, or tabs");
        check(!bare.contains("\""), "a text, where none is needed");
        for (String word : List.of("throw", "throws", "try", "catch", "synchronized", "assert", "volatile", "native", "protected",
            "yield", "var", "double", "float", "Object", "String", "equals", "hashCode", "toString")) {
            check(!Pattern.compile("\\b" + word + "\\b").matcher(bare).find(), "the word " + word);
        }
        check(!bare.contains("->") && !bare.contains("::"), "a lambda, or a reference to a method");
        check(!Pattern.compile("static\\s*\\{").matcher(bare).find(), "a static block");
        check(!bare.contains("while"), "a loop without a counter");
        library(bare);
        made(bare);
        lengths(bare);
        System.out.println(wrong == 0 ? "the language is kept to" : wrong + " faults of language");
        if (wrong != 0) {
            System.exit(1);
        }
    }

    private static void library(String bare) {
        Matcher used = Pattern.compile("\\b([A-Z]\\w*)\\.(\\w+)").matcher(bare);
        while (used.find()) {
            check(LIBRARY.contains(used.group()), "of the library: " + used.group());
        }
        Matcher taken = Pattern.compile("import ([^;]*);").matcher(bare);
        while (taken.find()) {
            check(taken.group(1).equals("java.util.Arrays"), "import of " + taken.group(1));
        }
    }

    /** Objects are made with a WhyRoom alone, so no run of calls can fill the room that all share. */
    private static void made(String bare) {
        boolean inConstructor = false;
        for (String line : bare.split("\n")) {
            inConstructor |= line.contains("public WhyRoom() {");
            check(!line.contains("new ") || inConstructor || line.contains("final "), "made in a call: " + line.trim());
            inConstructor &= !line.equals("    }");
        }
    }

    private static void lengths(String bare) {
        int begun = 0;
        int place = 0;
        String indent = "";
        for (String line : bare.split("\n")) {
            place++;
            check(line.length() <= 120, "a long line: " + line.trim());
            Matcher head = Pattern.compile("^( {4}| {8})[\\w\\[\\]. ]+\\([^;]*\\) \\{$").matcher(line);
            if (head.find()) {
                begun = place;
                indent = head.group(1);
            } else if (line.equals(indent + "}")) {
                check(place - begun < 60, "a long method ends at line " + place);
            }
        }
    }
}
