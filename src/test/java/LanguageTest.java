import java.io.IOException;
import java.lang.reflect.Executable;
import java.lang.reflect.Field;
import java.lang.reflect.Method;
import java.lang.reflect.Modifier;
import java.nio.file.Files;
import java.nio.file.Path;
import java.util.ArrayList;
import java.util.List;
import java.util.Set;
import java.util.TreeSet;
import java.util.regex.Matcher;
import java.util.regex.Pattern;

/** What can be counted of the rules of ../shared/LANGUAGE.md, for the one file that they bind. */
public final class LanguageTest {
    private static final Check check = new Check("LanguageTest");
    private static final Path SOURCE = Path.of("src/main/java/CommaCourt.java");
    private static final int MOST_CLASSES = 12, MOST_FIELDS = 20, MOST_PARAMETERS = 7, MOST_LINES = 60;
    private static final Pattern COMMENT_OR_SIGN =
            Pattern.compile("/\\*.*?\\*/|//[^\n]*|'(\\\\.|[^'])'", Pattern.DOTALL);
    private static final Pattern LIBRARY = Pattern.compile("\\b([A-Z]\\w*\\.[a-z]\\w*)\\(");
    private static final Set<String> LIBRARY_USED = Set.of("Math.abs", "Math.min", "Integer.bitCount");
    /** Rules 4 to 6, and the class's own: it throws nothing, so it has nothing to catch. */
    private static final String[] NOT_USED = {"\\bimport\\b", "\\bpackage\\b", "\\bthrows?\\b", "\\btry\\b",
        "\\bcatch\\b", "\\bfinally\\b", "\\bsynchronized\\b", "\\bassert\\b", "->", "::", "\\binstanceof\\b",
        "\\bObject\\b", "\\bequals\\b", "\\bhashCode\\b", "\\btoString\\b", "\\bSystem\\b", "static \\{", "\"",
        "\\bwhile\\b", "@"};
    /** No call makes an object: they are made in fields, and in the loops of two constructors. */
    private static final Pattern MADE = Pattern.compile(
            "((private )?final \\S+ \\w+|history\\[state\\]|editions\\[number\\]|rulings\\[number\\]) = new [^;]*;");

    public static void main(String[] args) throws IOException {
        String source = Files.readString(SOURCE);
        check.dueTrue("its signs are 1 to 127", source.chars().allMatch(sign -> sign >= 1 && sign <= 127));
        String code = COMMENT_OR_SIGN.matcher(source).replaceAll("0");
        words(code);
        library(code);
        objects(code);
        lengths(code);
        classes();
        check.end();
    }

    private static void words(String code) {
        for (String word : NOT_USED) {
            check.dueTrue("there is no " + word, !Pattern.compile(word).matcher(code).find());
        }
    }

    private static void library(String code) {
        Set<String> used = new TreeSet<>();
        for (Matcher call = LIBRARY.matcher(code); call.find(); ) {
            used.add(call.group(1));
        }
        used.removeAll(LIBRARY_USED);
        check.dueTrue("rule 4: not in the library: " + used, used.isEmpty());
    }

    private static void objects(String code) {
        for (String line : code.split("\n")) {
            if (line.matches(".*\\bnew\\b.*")) {
                check.dueTrue("made once and kept: " + line.strip(), MADE.matcher(line.strip()).matches());
            }
        }
    }

    /** A method begins at a line of a member's indentation that ends in "{", and ends at such a "}". */
    private static void lengths(String code) {
        String[] lines = code.split("\n");
        for (String indentation : new String[] {" ".repeat(4), " ".repeat(8)}) {
            int begin = -1;
            for (int line = 0; line < lines.length; line++) {
                if (lines[line].matches(indentation + "[a-zA-Z][^=;]*\\) \\{")) {
                    begin = line;
                } else if (begin >= 0 && lines[line].equals(indentation + "}")) {
                    int length = line - begin + 1;
                    check.dueTrue("rule 11: " + length + " lines: " + lines[begin].strip(), length <= MOST_LINES);
                    begin = -1;
                }
            }
        }
    }

    private static void classes() {
        List<Class<?>> all = new ArrayList<>(List.of(CommaCourt.class.getDeclaredClasses()));
        all.add(CommaCourt.class);
        check.dueTrue("rule 11: " + all.size() + " classes", all.size() <= MOST_CLASSES);
        Set<String> face = new TreeSet<>();
        for (Method method : CommaCourt.class.getDeclaredMethods()) {
            if (Modifier.isPublic(method.getModifiers())) {
                face.add(method.getName());
            }
        }
        for (Class<?> one : all) {
            fields(one);
            methods(one, face);
        }
    }

    private static void fields(Class<?> one) {
        int ofObjects = 0;
        for (Field field : one.getDeclaredFields()) {
            boolean isStatic = Modifier.isStatic(field.getModifiers());
            ofObjects += isStatic ? 0 : 1;
            check.dueTrue("rule 5: " + field + " is a constant", !isStatic
                    || Modifier.isFinal(field.getModifiers()) && field.getType() == int.class);
        }
        check.dueTrue("rule 11: " + ofObjects + " fields in " + one, ofObjects <= MOST_FIELDS);
    }

    private static void methods(Class<?> one, Set<String> face) {
        List<Executable> all = new ArrayList<>(List.of(one.getDeclaredMethods()));
        all.addAll(List.of(one.getDeclaredConstructors()));
        for (Executable method : all) {
            check.dueTrue("rule 11: the parameters of " + method, method.getParameterCount() <= MOST_PARAMETERS);
            check.dueTrue("rule 1: the name of " + method,
                    Modifier.isPublic(method.getModifiers()) || !face.contains(method.getName()));
        }
    }
}
