import java.io.IOException;
import java.lang.reflect.Field;
import java.lang.reflect.Method;
import java.lang.reflect.Modifier;
import java.nio.file.Files;
import java.nio.file.Path;
import java.util.ArrayList;
import java.util.List;
import java.util.Set;
import java.util.TreeSet;
import java.util.regex.Matcher;
import java.util.regex.Pattern;

/** What of ../shared/LANGUAGE.md can be seen from the text and the face of the class. */
public final class LanguageTest {
    private static final Path SOURCE = Path.of("src/main/java/LozengeGrounds.java");
    private static final Path DOCUMENT = Path.of("../shared/DOC.md");
    private static final Set<Class<?>> FIXED_TYPES = Set.of(int.class, long.class, boolean.class, char.class,
        String.class, int[].class, long[].class, char[].class, byte[].class);
    private static final Set<String> LIBRARY = Set.of("Long.bitCount", "Integer.bitCount", "Math.max", "Math.min",
        "Math.abs", "Arrays.fill", "System.arraycopy");
    private static final String[] FACE = {"int ground(int,int)", "int hexagon(int,int,int)", "int set(int,boolean)",
        "int isIn(int)", "int ups(boolean)", "int size(int)", "long product(int,int,int)", "long layings()",
        "long with(int,int)", "int kinds(int)", "int forced()", "int span(int,boolean)", "int weight(int,int,int)",
        "int dearest()", "int lay(int,long)", "int layDearest(int)", "int copy(int,int)", "long place(int)",
        "int kind(int,int)", "int count(int,int)", "int weighs(int)", "int point(int,int,int)",
        "int free(int,boolean)", "int turn(int,int,int)", "int apart(int,int)", "int end(int,boolean)",
        "int reach(int)", "int mirror(int)", "int most()", "int lack()", "int bar()", "int barred(int)"};
    private static final String[] NOT_ALLOWED = {"throw", "try", "catch", "synchronized", "assert", "package",
        "protected", "Exact\\b", "System\\.(?!arraycopy)", "Thread", "Random", "::", "->", "float", "double",
        "hashCode", "toString", "volatile", "native", "finally", "yield", "var"};

    private static int wrong = 0;

    private static void fault(String what) {
        wrong++;
        System.out.println(what);
    }

    private static void lookAtFace() {
        Set<String> want = new TreeSet<>(List.of(FACE));
        Set<String> names = new TreeSet<>();
        Set<String> got = new TreeSet<>();
        for (Method m : LozengeGrounds.class.getDeclaredMethods()) {
            if (Modifier.isPublic(m.getModifiers())) {
                StringBuilder text = new StringBuilder(m.getReturnType() + " " + m.getName() + "(");
                for (Class<?> type : m.getParameterTypes()) {
                    text.append(text.charAt(text.length() - 1) == '(' ? "" : ",").append(type);
                }
                got.add(text.append(")").toString());
                names.add(m.getName());
            }
        }
        if (!got.equals(want)) {
            fault("the face is " + got);
        }
        lookAtMembers(LozengeGrounds.class, names);
        for (Class<?> inside : LozengeGrounds.class.getDeclaredClasses()) {
            lookAtMembers(inside, names);
            if (!Modifier.isStatic(inside.getModifiers()) || Modifier.isPublic(inside.getModifiers())) {
                fault(inside + " is not static, or public");
            }
        }
        if (LozengeGrounds.class.getDeclaredClasses().length > 11) {
            fault("too many classes");
        }
        if (LozengeGrounds.class.getDeclaredConstructors().length != 1
            || LozengeGrounds.class.getConstructors().length != 1 || !Modifier.isFinal(LozengeGrounds.class.getModifiers())) {
            fault("the constructor or the class is not as told");
        }
    }

    private static void lookAtMembers(Class<?> type, Set<String> names) {
        boolean face = type == LozengeGrounds.class;
        int fields = 0;
        for (Method m : type.getDeclaredMethods()) {
            boolean open = Modifier.isPublic(m.getModifiers());
            if (!m.isSynthetic() && !open && names.contains(m.getName())) {
                fault(m + " bears the name of a public one");
            }
            if (!m.isSynthetic() && face && !open && !Modifier.isPrivate(m.getModifiers())) {
                fault(m + " can be seen");
            }
            if (m.getParameterCount() > 7) {
                fault(m + " has too many parameters");
            }
        }
        for (Field f : type.getDeclaredFields()) {
            boolean fixed = Modifier.isStatic(f.getModifiers());
            fields += fixed ? 0 : 1;
            if (fixed && !Modifier.isFinal(f.getModifiers())) {
                fault(f + " is static and not final");
            }
            if (face && !Modifier.isPublic(f.getModifiers()) && !Modifier.isPrivate(f.getModifiers())) {
                fault(f + " can be seen");
            }
            if (fixed && !FIXED_TYPES.contains(f.getType())) {
                fault(f + " is no constant of an allowed type");
            }
        }
        if (fields > 20) {
            fault(type + " has too many fields");
        }
    }

    /** The face as the document's own block tells it, constants with their values. */
    private static void compareWithDocument(String document) throws IllegalAccessException {
        int from = document.indexOf("```java");
        String block = document.substring(from, document.indexOf("```", from + 3));
        Set<String> told = new TreeSet<>();
        Matcher constants = Pattern.compile("\\b([A-Z]+) = (-?\\d+)").matcher(block);
        while (constants.find()) {
            told.add(constants.group(1) + " " + constants.group(2));
        }
        Matcher calls = Pattern.compile("public (\\w+) (\\w+)\\((.*?)\\);").matcher(block);
        while (calls.find()) {
            told.add(calls.group(1) + " " + calls.group(2) + "(" + calls.group(3).replaceAll(" \\w+(, )?", ",") + ")");
        }
        Set<String> stands = new TreeSet<>();
        for (Field f : LozengeGrounds.class.getFields()) {
            stands.add(f.getName() + " " + f.getInt(null));
        }
        for (Method m : LozengeGrounds.class.getDeclaredMethods()) {
            StringBuilder types = new StringBuilder();
            for (Class<?> type : m.getParameterTypes()) {
                types.append(type).append(",");
            }
            if (Modifier.isPublic(m.getModifiers())) {
                stands.add(m.getReturnType() + " " + m.getName() + "(" + types + ")");
            }
        }
        if (told.size() != FACE.length + 6 || !told.equals(stands)) {
            fault("the document tells " + told + ", there stands " + stands);
        }
    }

    private static void lookAtLibrary(String text) {
        Matcher calls = Pattern.compile("\\b([A-Z]\\w*)\\.(\\w+)\\(").matcher(text);
        while (calls.find()) {
            String call = calls.group(1) + "." + calls.group(2);
            if (!LIBRARY.contains(call)) {
                fault("not of the library: " + call);
            }
        }
    }

    private static String withoutComments(String text) {
        return text.replaceAll("(?s)/\\*.*?\\*/", "").replaceAll("//[^\n]*", "");
    }

    private static void lookAtText(String text) {
        for (String word : NOT_ALLOWED) {
            String edge = Character.isLetter(word.charAt(0)) && !word.startsWith("Exact") ? "\\b" : "";
            String end = word.matches("\\w+") ? "\\b" : "";
            Matcher m = Pattern.compile(edge + word + end).matcher(text);
            if (m.find()) {
                fault("not allowed: " + m.group());
            }
        }
        Matcher imports = Pattern.compile("import ([^;]*);").matcher(text);
        while (imports.find()) {
            if (!Set.of("java.util.Arrays", "java.util.ArrayList", "java.util.List").contains(imports.group(1))) {
                fault("not allowed: " + imports.group());
            }
        }
        if (Pattern.compile("while \\(true\\)|for \\(;;\\)").matcher(text).find()) {
            fault("a loop without an end");
        }
    }

    private static void lookAtLengths(String text) {
        int start = -1;
        int line = 0;
        List<String> open = new ArrayList<>();
        for (String row : text.split("\n")) {
            line++;
            boolean head = row.matches("( {4}| {8})[\\w].*\\) \\{") && !row.contains(" new ");
            if (head) {
                start = line;
                open.add(row.strip());
            }
            if (start > 0 && row.matches("( {4}| {8})\\}")) {
                if (line - start > 60) {
                    fault(open.get(open.size() - 1) + " has " + (line - start) + " lines");
                }
                start = -1;
            }
            if (row.length() > 130) {
                fault("line " + line + " is long");
            }
        }
    }

    /** Objects are made in constructors and where fields are declared, never by a call. */
    private static void lookAtMaking(String text) {
        Matcher made = Pattern.compile("\n( *)([^\n]*\\bnew [^\n]*)").matcher(text);
        while (made.find()) {
            String row = made.group(2);
            boolean field = row.startsWith("final ");
            boolean inConstructor = text.lastIndexOf("public LozengeGrounds()", made.start()) >= 0
                && text.indexOf("public int ground(") > made.start();
            if (!field && !inConstructor) {
                fault("made by a call: " + row);
            }
        }
    }

    public static void main(String[] args) throws IOException, IllegalAccessException {
        String text = withoutComments(Files.readString(SOURCE));
        lookAtFace();
        compareWithDocument(Files.readString(DOCUMENT));
        lookAtLibrary(text);
        lookAtText(text.replaceFirst("public static final int UNKNOWN[^\n]*", ""));
        lookAtLengths(text.replaceFirst("public static final int UNKNOWN[^\n]*", ""));
        lookAtMaking(text);
        System.out.println(wrong + " faults of language");
        if (wrong != 0) {
            System.exit(1);
        }
    }
}
