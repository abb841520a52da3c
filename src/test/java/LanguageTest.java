import java.io.IOException;
import java.lang.reflect.Executable;
import java.lang.reflect.Field;
import java.lang.reflect.Method;
import java.lang.reflect.Modifier;
import java.nio.file.Files;
import java.nio.file.Path;
import java.util.ArrayList;
import java.util.Arrays;
import java.util.List;
import java.util.Set;
import java.util.TreeSet;
import java.util.regex.Matcher;
import java.util.regex.Pattern;

/** The rules of LANGUAGE.md that the class's text and its compiled form can show, under their numbers. */
public final class LanguageTest extends Checks {
    private static final Path SOURCE = Path.of("src", "main", "java", "RuledCalendar.java");
    private static final Set<String> FIELD_TYPES = Set.of("int", "long", "short", "byte", "char", "boolean",
            "int[]", "long[]", "short[]", "byte[]", "char[]", "int[][]", "long[][]", "String");
    /** Behind a dot, names of the library that may be called. */
    private static final Set<String> LIBRARY = Set.of("Arrays.fill", "Arrays.copyOf", "Arrays.copyOfRange",
            "System.arraycopy", "Integer.bitCount", "Integer.numberOfTrailingZeros", "Integer.compare",
            "Math.min", "Math.max", "Math.abs", "Math.floorDiv", "Math.floorMod");

    /** A loop with a counter against a bound, the same counter in all three places. */
    private static final String COUNTED =
            "for \\(int (\\w+) = [^;]+; [^;]*\\b\\1 (<|<=|>|>=) [^;]+; \\1(\\+\\+|--| /= 2)\\) \\{";

    private static List<String> lines = new ArrayList<>();
    /** The text without comments and without what stands between quotes. */
    private static String code = "";

    private static void readSource() {
        try {
            lines = Files.readAllLines(SOURCE);
        } catch (IOException e) {
            due("the source", e, "there");
        }
        String text = String.join("\n", lines);
        code = text.replaceAll("(?s)/\\*.*?\\*/", "").replaceAll("//[^\n]*", "")
                .replaceAll("\"[^\"\n]*\"", "\"\"").replaceAll("'[^']'", "' '");
    }

    private static List<Class<?>> classes() {
        List<Class<?>> all = new ArrayList<>();
        all.add(RuledCalendar.class);
        all.addAll(Arrays.asList(RuledCalendar.class.getDeclaredClasses()));
        return all;
    }

    private static List<String> found(String pattern) {
        List<String> all = new ArrayList<>();
        Matcher matcher = Pattern.compile(pattern).matcher(code);
        while (matcher.find()) {
            all.add(matcher.group());
        }
        return all;
    }

    private static void none(String pattern) {
        due("what has the form " + pattern, found(pattern), List.of());
    }

    private static void oneFileOneFace() {
        none("(?m)^package ");
        none("\\b(protected|native|transient|volatile|strictfp)\\b");
        due("public classes", found("public final class \\w+"), List.of("public final class RuledCalendar"));
        Set<String> ofFace = new TreeSet<>();
        for (Method method : RuledCalendar.class.getDeclaredMethods()) {
            if (Modifier.isPublic(method.getModifiers())) {
                ofFace.add(method.getName());
            }
        }
        due("how many methods the face has", ofFace.size(), 17);
        for (Class<?> type : classes()) {
            for (Method method : type.getDeclaredMethods()) {
                if (!Modifier.isPublic(method.getModifiers()) && !method.isSynthetic()) {
                    due(method + " bears a name of the face", ofFace.contains(method.getName()), false);
                }
            }
        }
    }

    private static void classesInside() {
        for (Class<?> type : RuledCalendar.class.getDeclaredClasses()) {
            due(type + " is static", Modifier.isStatic(type.getModifiers()), true);
            due(type + " is public", Modifier.isPublic(type.getModifiers()), false);
            due(type + " has classes inside", type.getDeclaredClasses().length, 0);
            if (type.isEnum()) {
                for (Field field : type.getDeclaredFields()) {
                    boolean isOwn = !field.isEnumConstant() && !field.isSynthetic();
                    due(field + " of an enum", isOwn && field.getType().isArray(), false);
                }
            }
        }
        none("->|::");
        none("\\bnew \\w+\\([^()]*\\) *\\{");
    }

    private static void types() {
        Set<String> own = new TreeSet<>();
        for (Class<?> type : classes()) {
            own.add(type.getSimpleName());
            own.add(type.getSimpleName() + "[]");
        }
        for (Class<?> type : classes()) {
            for (Field field : type.getDeclaredFields()) {
                String name = field.getType().getSimpleName();
                due(field + " has such a type", FIELD_TYPES.contains(name) || own.contains(name), true);
            }
        }
        none("\\b(double|float|Object|var)\\b");
    }

    private static void library() {
        due("imports", found("(?m)^import .*"), List.of("import java.util.Arrays;"));
        for (String call : found("\\b(Arrays|System|Integer|Long|Math|Character|Boolean|String)\\.\\w+")) {
            due(call + " is in the list", LIBRARY.contains(call), true);
        }
        none("\\bjava\\.(?!util\\.Arrays;)");
        none("\\.(hashCode|toString|getClass|equals|stream|format|ordinal|name|compareTo)\\(");
    }

    private static void staticFields() {
        for (Class<?> type : classes()) {
            for (Field field : type.getDeclaredFields()) {
                if (Modifier.isStatic(field.getModifiers())) {
                    due(field + " is final", Modifier.isFinal(field.getModifiers()), true);
                }
            }
        }
        none("\\bstatic\\s*\\{");
        none("MONTH_LENGTHS\\[[^]]*\\] *=[^=]");
    }

    private static void exceptions() {
        for (String made : found("\\bthrow\\b[^;]*;")) {
            due(made, made.matches("throw new (IllegalArgument|IndexOutOfBounds)Exception\\(\\);"), true);
        }
        none("\\b(try|catch|finally|synchronized|assert|instanceof)\\b");
        for (String line : code.split("\n")) {
            boolean isOwn = line.contains(" extends ") && line.contains("Exception");
            due("an exception class of its own: " + line, isOwn, false);
        }
    }

    private static void loops() {
        due("loops by while", found("\\b(while|do)\\b"), List.of());
        for (String head : found("\\bfor \\([^\n]*\\) \\{")) {
            due(head + " has a counter and a bound", head.matches(COUNTED), true);
        }
        due("there are loops", found("\\bfor \\(").size() > 10, true);
        due("all loops were seen", found("\\bfor \\([^\n]*\\) \\{").size(), found("\\bfor\\b").size());
    }

    private static void sizes() {
        due("at most 12 classes", classes().size() <= 12, true);
        for (Class<?> type : classes()) {
            int fields = 0;
            for (Field field : type.getDeclaredFields()) {
                fields += Modifier.isStatic(field.getModifiers()) ? 0 : 1;
            }
            due(type + " has at most 20 fields", fields <= 20, true);
            List<Executable> all = new ArrayList<>(Arrays.asList(type.getDeclaredMethods()));
            all.addAll(Arrays.asList(type.getDeclaredConstructors()));
            for (Executable one : all) {
                due(one + " has at most 7 parameters", one.getParameterCount() <= 7, true);
            }
        }
        int begin = 0;
        for (int i = 0; i < lines.size(); i++) {
            if (lines.get(i).isBlank()) {
                begin = i;
            }
            due("lines on end at " + (i + 1), i - begin <= 60, true);
        }
    }

    /** Objects are made in constructors, or once for each number of a thing. */
    private static void objects() {
        Set<String> outside = new TreeSet<>();
        boolean isConstructor = false;
        for (String line : lines) {
            if (line.matches("    (    )?[^ *].*\\{")) {
                isConstructor = line.trim().matches("(public )?[A-Z]\\w*\\([^)]*\\) \\{");
            }
            Matcher made = Pattern.compile("(?<!throw )new \\w+").matcher(line);
            while (!isConstructor && made.find()) {
                outside.add(made.group());
            }
        }
        due("what is made outside of constructors", outside, Set.of("new Thing"));
        due("values() is kept once", found("private static final \\w+\\[\\] \\w+ = \\w+\\.values\\(\\);").size(),
                found("\\bvalues\\(\\)").size());
    }

    public static void main(String[] args) {
        readSource();
        sentence("rule 1: the face", LanguageTest::oneFileOneFace);
        sentence("rule 2: classes inside", LanguageTest::classesInside);
        sentence("rule 3: types", LanguageTest::types);
        sentence("rule 4: the library", LanguageTest::library);
        sentence("rule 5: static fields are final", LanguageTest::staticFields);
        sentence("rule 6: exceptions", LanguageTest::exceptions);
        sentence("rule 9: every loop has an end", LanguageTest::loops);
        sentence("rule 11: sizes", LanguageTest::sizes);
        sentence("rule 12: objects", LanguageTest::objects);
        end();
    }
}
