import java.lang.reflect.Field;
import java.lang.reflect.Method;
import java.lang.reflect.Modifier;
import java.nio.charset.StandardCharsets;
import java.nio.file.Files;
import java.nio.file.Path;
import java.util.ArrayList;
import java.util.List;
import java.util.TreeSet;
import java.util.regex.Matcher;
import java.util.regex.Pattern;

/** Looks through the program for what LANGUAGE.md rules out. The argument is the program's file. */
public final class LanguageTest {
    private static final String[] FACE = {
        "int feed(int,int,int,int,int)", "int back(int)", "int read()", "int place()", "boolean add(int,int)",
        "boolean drop(int,int)", "boolean undo()", "int has(int,int)", "int gap(int,int)", "int generator(int,int)",
        "int apery(int,int,int)", "int stiff(int,int)", "int special(int,int)", "int about(int,int)", "int ways(int,int)",
        "int way(int,int,int,int)", "int length(int,int,int)", "int parts(int,int)", "int tie(int,int)",
        "int chain(int,int)", "int greedy(int,int,int)", "int blunder(int)", "int kunz(int,int)", "int child(int,int)",
        "int below(int,int)", "int meeting(int,int,int)", "int list(int,int,int)", "int listed(int)", "int above(int)",
        "int piece(int,int)", "int good(int,int)", "int same(int,int)", "boolean hold(int)", "boolean restore(int)",
        "int count(int)"};
    private static final String[] RULED_OUT = {
        "\\bpackage\\b", "\\bimport\\b", "\\bthrow\\b", "\\bthrows\\b", "\\btry\\b", "\\bcatch\\b", "\\bfinally\\b",
        "\\bsynchronized\\b", "\\bassert\\b", "\\bnative\\b", "\\bvolatile\\b", "\\bthis\\s*\\(", "->", "::",
        "\\w+Exact\\b", "\\bhashCode\\b", "\\btoString\\b", "\\bSystem\\s*\\.\\s*(?!arraycopy\\b)", "\\bThread\\b",
        "\\bRuntime\\b", "\\bstatic\\s*\\{", "\\[\\]\\s*\\[\\]\\s*\\[\\]", "boolean\\s*\\[\\]\\s*\\[\\]", "@\\w+"};
    /** All of the library that the program calls or reads. */
    private static final String LIBRARY = "Math\\.(max|min)|Integer\\.(MIN_VALUE|MAX_VALUE|bitCount|numberOfTrailingZeros)"
        + "|System\\.arraycopy";
    private static final String LIBRARY_CLASSES = "Math|Integer|Long|Arrays|System|String|StringBuilder|List|ArrayList"
        + "|Character|Boolean|Byte|Short|Double|Float|Object|Class|Iterator|Iterable|Comparable";
    private static final int MOST_LINES = 60;
    private static final int MOST_FIELDS = 20;
    private static final int MOST_CLASSES = 12;

    private static int wrong;

    private LanguageTest() {
    }

    private static void fault(String what) {
        wrong++;
        System.out.println("LanguageTest: " + what);
    }

    public static void main(String[] args) throws Exception {
        String file = args.length > 0 ? args[0] : "src/main/java/StepSums.java";
        String text = Files.readString(Path.of(file), StandardCharsets.ISO_8859_1);
        for (int i = 0; i < text.length(); i++) {
            if (text.charAt(i) > 126) {
                fault("a sign above 126 at " + i);
            }
        }
        String bare = withoutCommentsAndTexts(text);
        for (String rule : RULED_OUT) {
            Matcher m = Pattern.compile(rule).matcher(bare);
            while (m.find()) {
                fault("'" + m.group() + "' in line " + bare.substring(0, m.start()).split("\n", -1).length);
            }
        }
        lookAtMethodLengths(bare);
        lookAtLibrary(bare);
        lookAtWhatIsMade(bare);
        lookAtFace();
        lookAtClasses();
        System.out.println("LanguageTest: " + wrong + " wrong");
        if (wrong != 0) {
            System.exit(1);
        }
    }

    private static String withoutCommentsAndTexts(String text) {
        Pattern skip = Pattern.compile("/\\*.*?\\*/|//[^\n]*|\"(?:\\\\.|[^\"\\\\])*\"|'(?:\\\\.|[^'\\\\])'", Pattern.DOTALL);
        return skip.matcher(text).replaceAll(r -> r.group().replaceAll("[^\n]", " "));
    }

    private static void lookAtMethodLengths(String bare) {
        String[] lines = bare.split("\n", -1);
        Pattern head = Pattern.compile("^(    |        )\\S.*\\)\\s*\\{\\s*$");
        for (int i = 0; i < lines.length; i++) {
            Matcher m = head.matcher(lines[i]);
            if (m.find()) {
                int end = i + 1;
                while (end < lines.length && !lines[end].equals(m.group(1) + "}")) {
                    end++;
                }
                if (end - i + 1 > MOST_LINES) {
                    fault("a method of " + (end - i + 1) + " lines in line " + (i + 1));
                }
            }
        }
    }

    private static void lookAtLibrary(String bare) {
        Matcher m = Pattern.compile("\\b(" + LIBRARY_CLASSES + ")\\b(\\.\\w+)?").matcher(bare);
        while (m.find()) {
            if (!m.group().matches(LIBRARY)) {
                fault("the library's " + m.group());
            }
        }
    }

    /** No call makes an object or a row: all are made in constructors, so that a run stays in its room. */
    private static void lookAtWhatIsMade(String bare) {
        Pattern head = Pattern.compile("^\\s+((?:[\\w\\[\\]]+ )*)(\\w+)\\([^=;]*\\) \\{$");
        boolean inConstructor = false;
        String[] lines = bare.split("\n", -1);
        for (int i = 0; i < lines.length; i++) {
            Matcher m = head.matcher(lines[i]);
            if (m.find() && !m.group(2).matches("if|for|while|switch")) {
                inConstructor = m.group(2).matches("[A-Z]\\w*") && m.group(1).matches("(public )?");
            }
            if (lines[i].matches(".*\\bnew\\b.*") && !inConstructor) {
                fault("made outside a constructor in line " + (i + 1));
            }
        }
    }

    private static String signature(Method m) {
        List<String> types = new ArrayList<>();
        for (Class<?> type : m.getParameterTypes()) {
            types.add(type.getSimpleName());
        }
        return m.getReturnType().getSimpleName() + " " + m.getName() + "(" + String.join(",", types) + ")";
    }

    private static void lookAtFace() {
        Class<?> face = StepSums.class;
        if (!Modifier.isPublic(face.getModifiers()) || !Modifier.isFinal(face.getModifiers())) {
            fault("the class is not public and final");
        }
        TreeSet<String> found = new TreeSet<>();
        TreeSet<String> names = new TreeSet<>();
        for (Method m : face.getDeclaredMethods()) {
            if (Modifier.isPublic(m.getModifiers())) {
                found.add(signature(m));
                names.add(m.getName());
            }
        }
        if (!found.equals(new TreeSet<>(List.of(FACE)))) {
            fault("the face is " + found);
        }
        for (Method m : face.getDeclaredMethods()) {
            boolean isPublic = Modifier.isPublic(m.getModifiers());
            if (!isPublic && (!Modifier.isPrivate(m.getModifiers()) || names.contains(m.getName()))) {
                fault("method " + m.getName());
            }
        }
        if (face.getDeclaredConstructors().length != 1 || face.getConstructors().length != 1) {
            fault("not just one constructor, a public one");
        }
        for (Field f : face.getDeclaredFields()) {
            if (!Modifier.isPrivate(f.getModifiers()) && !f.getName().equals("NONE")) {
                fault("field " + f.getName());
            }
        }
    }

    private static void lookAtClasses() {
        List<Class<?>> classes = new ArrayList<>(List.of(StepSums.class.getDeclaredClasses()));
        for (Class<?> inside : classes) {
            int mods = inside.getModifiers();
            if (!Modifier.isStatic(mods) || Modifier.isPublic(mods) || Modifier.isProtected(mods)) {
                fault("class " + inside.getSimpleName());
            }
        }
        classes.add(StepSums.class);
        if (classes.size() > MOST_CLASSES) {
            fault(classes.size() + " classes");
        }
        TreeSet<String> publicNames = new TreeSet<>();
        for (String promised : FACE) {
            publicNames.add(promised.substring(promised.indexOf(' ') + 1, promised.indexOf('(')));
        }
        for (Class<?> one : classes) {
            int fields = 0;
            for (Field f : one.getDeclaredFields()) {
                boolean isStatic = Modifier.isStatic(f.getModifiers());
                fields += isStatic ? 0 : 1;
                if (isStatic && !Modifier.isFinal(f.getModifiers())) {
                    fault("a static field that is not final: " + f.getName());
                }
            }
            if (fields > MOST_FIELDS) {
                fault(fields + " fields in " + one.getSimpleName());
            }
            for (Method m : one.getDeclaredMethods()) {
                if (m.getParameterCount() > 7) {
                    fault("too many parameters: " + m.getName());
                }
                if (Modifier.isPrivate(m.getModifiers()) && publicNames.contains(m.getName())) {
                    fault("a private method with a public one's name: " + m.getName());
                }
            }
        }
    }
}
