import java.io.ByteArrayInputStream;
import java.io.DataInputStream;
import java.io.IOException;
import java.io.InputStream;
import java.nio.file.Files;
import java.nio.file.Path;
import java.util.List;
import java.util.Map;
import java.util.Set;
import java.util.TreeMap;
import java.util.TreeSet;
import java.util.regex.Matcher;
import java.util.regex.Pattern;

/** What ../shared/LANGUAGE.md asks of the class, as far as its compiled form and its lines tell it. */
public final class LanguageTest extends Checks {
    private static final Path SOURCE = Path.of("src/main/java/CrossingSweep.java");
    private static final Set<String> EXCEPTIONS = Set.of("IllegalStateException", "IllegalArgumentException",
            "IndexOutOfBoundsException", "ArithmeticException", "UnsupportedOperationException",
            "NoSuchElementException", "RuntimeException");
    private static final Set<String> OF_NUMBERS = Set.of("compare", "max", "min", "abs", "bitCount", "signum",
            "floorDiv", "floorMod", "numberOfTrailingZeros", "numberOfLeadingZeros", "highestOneBit",
            "lowestOneBit");
    /** Rule 4: what may be called of each class of the library; exceptions are only made. */
    private static final Map<String, Set<String>> LIBRARY = Map.of(
            "java/lang/Object", Set.of("<init>"),
            "java/lang/String", Set.of("length", "charAt", "isEmpty", "equals", "indexOf", "substring",
                    "toCharArray", "<init>"),
            "java/lang/StringBuilder", Set.of("<init>", "append", "charAt", "setCharAt", "setLength",
                    "deleteCharAt", "reverse", "length", "toString"),
            "java/lang/Integer", OF_NUMBERS, "java/lang/Long", OF_NUMBERS, "java/lang/Math", OF_NUMBERS,
            "java/lang/System", Set.of("arraycopy"),
            "java/util/Arrays", Set.of("copyOf", "copyOfRange", "fill"));

    /** The constant pool of a compiled class: the texts, and what the entries tell by their numbers. */
    private static final class Pool {
        final Map<Integer, String> texts = new TreeMap<>();
        final Map<Integer, Integer> classes = new TreeMap<>();
        final Map<Integer, Integer> names = new TreeMap<>();
        final Map<Integer, int[]> calls = new TreeMap<>();
        boolean isDynamic = false;
    }

    private LanguageTest() {
    }

    public static void main(String[] args) throws IOException {
        for (Class<?> one : CrossingSweep.class.getNestMembers()) {
            callsOf(one);
        }
        String bare = withoutTexts(Files.readString(SOURCE));
        words(bare);
        due(0, "rule 6: what is thrown", unlisted(bare, "\\bthrow\\b(?! new (\\w+)\\()"), "[]");
        due(0, "rule 6: of a class that is not listed", others(bare, "throw new (\\w+)", EXCEPTIONS), "[]");
        caught(bare);
        lengths(bare);
        constructors(bare);
        finish();
    }

    private static void callsOf(Class<?> one) throws IOException {
        try (InputStream bytes = one.getResourceAsStream(one.getName() + ".class")) {
            Pool pool = poolOf(new DataInputStream(new ByteArrayInputStream(bytes.readAllBytes())));
            due(0, "rule 10: a lambda, a method reference, texts joined by + in " + one, pool.isDynamic, false);
            for (int[] call : pool.calls.values()) {
                String owner = pool.texts.get(pool.classes.get(call[0]));
                String name = pool.texts.get(pool.names.get(call[1]));
                due(0, "rule 4: " + owner + "." + name, mayCall(owner, name), true);
            }
        }
    }

    private static boolean mayCall(String owner, String name) {
        if (owner.startsWith("CrossingSweep")) {
            return true;
        }
        if (owner.startsWith("[")) {
            return name.equals("clone");
        }
        if (EXCEPTIONS.contains(owner.substring(owner.lastIndexOf('/') + 1))) {
            return name.equals("<init>");
        }
        return LIBRARY.getOrDefault(owner, Set.of()).contains(name);
    }

    private static Pool poolOf(DataInputStream in) throws IOException {
        Pool pool = new Pool();
        in.skipNBytes(8);
        int size = in.readUnsignedShort();
        for (int i = 1; i < size; i++) {
            int tag = in.readUnsignedByte();
            switch (tag) {
                case 1 -> pool.texts.put(i, in.readUTF());
                case 7 -> pool.classes.put(i, in.readUnsignedShort());
                case 12 -> {
                    pool.names.put(i, in.readUnsignedShort());
                    in.skipNBytes(2);
                }
                case 9, 10, 11 -> pool.calls.put(i, new int[] {in.readUnsignedShort(), in.readUnsignedShort()});
                case 3, 4 -> in.skipNBytes(4);
                case 5, 6 -> {
                    in.skipNBytes(8);
                    i++;
                }
                case 8 -> in.skipNBytes(2);
                default -> {
                    pool.isDynamic = true;
                    return pool;
                }
            }
        }
        return pool;
    }

    /** Comments, texts and signs are blanked, so that only what is Java is looked at. */
    private static String withoutTexts(String source) {
        return source.replaceAll("(?s)/\\*.*?\\*/", "").replaceAll("//[^\n]*", "")
                .replaceAll("\"[^\"\n]*\"", "\"\"").replaceAll("'[^'\n]+'", "' '");
    }

    private static void words(String bare) {
        String banned = "package|synchronized|assert|finally|volatile|native|transient|strictfp|var|Object|Class";
        due(0, "words that the rules leave out", unlisted(bare, "\\b(?:" + banned + ")\\b"), "[]");
        due(0, "exact to the last part, never rounded", unlisted(bare, "\\b(?:float|double)\\b"), "[]");
        due(0, "rule 5: a static initialiser block", unlisted(bare, "static \\{"), "[]");
        due(0, "rule 4: imports", others(bare, "import ([\\w.]+);", Set.of("java.util.NoSuchElementException")), "[]");
        due(0, "rule 9: a loop whose end is not told in its lines",
                unlisted(bare, "while \\(true\\)|for \\([^;]*; ?;"), "[]");
    }

    /** What is caught may be thrown by code alone: none that the machine throws, and no class above one of those. */
    private static void caught(String bare) {
        Set<String> fine = Set.of("IllegalStateException", "IllegalArgumentException", "NoSuchElementException",
                "UnsupportedOperationException");
        due(0, "rule 6: what is caught", others(bare, "catch \\(([\\w.| ]+) \\w+\\)", fine), "[]");
    }

    private static String unlisted(String bare, String pattern) {
        return others(bare, "(" + pattern + ")", Set.of());
    }

    private static String others(String bare, String pattern, Set<String> listed) {
        TreeSet<String> found = new TreeSet<>();
        Matcher m = Pattern.compile(pattern).matcher(bare);
        while (m.find()) {
            if (!listed.contains(m.group(1))) {
                found.add(m.group(1));
            }
        }
        return found.toString();
    }

    /** A method's head stands at one class's or two classes' indent, and its closing brace, too. */
    private static void lengths(String bare) {
        String indent = "";
        int begin = 0;
        int methods = 0;
        List<String> lines = bare.lines().toList();
        for (int i = 0; i < lines.size(); i++) {
            String line = lines.get(i);
            if (indent.isEmpty() && line.matches("( {4}| {8})[^ }].*\\{") && !line.contains(" class ")) {
                indent = line.substring(0, line.length() - line.stripLeading().length());
                begin = i;
            } else if (!indent.isEmpty() && line.equals(indent + "}")) {
                methods++;
                due(0, "rule 11: more than sixty lines from line " + begin, i - begin > 60, false);
                indent = "";
            }
        }
        due(0, "methods were found", methods > 33, true);
    }

    private static void constructors(String bare) {
        Matcher m = Pattern.compile("(?s)\n {4,8}(?:public |private )?([A-Z]\\w*)\\([^)]*\\) \\{(.*?)\n {4,8}\\}")
                .matcher(bare);
        int found = 0;
        while (m.find()) {
            found++;
            due(0, "rule 6: a throw in the constructor of " + m.group(1), m.group(2).contains("throw"), false);
        }
        due(0, "constructors were found", found >= CrossingSweep.class.getNestMembers().length - 1, true);
    }
}
