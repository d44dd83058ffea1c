import java.lang.reflect.Constructor;
import java.lang.reflect.Field;
import java.lang.reflect.Method;
import java.lang.reflect.Modifier;
import java.nio.charset.StandardCharsets;
import java.nio.file.Files;
import java.nio.file.Path;
import java.util.Arrays;
import java.util.Set;
import java.util.TreeSet;
import java.util.regex.Matcher;
import java.util.regex.Pattern;

/** The public face of the class, and the rules of LANGUAGE.md that can be seen from outside. */
public final class FaceTest {
    private static final String[] FACE = {
        "int feed(int,int,int,int,int)", "int end(int)", "int text()", "int fault(int)",
        "int set(int,int,int,int)", "int swap(int,int)", "int scale(int,int,int)",
        "int add(int,int,int,int)", "int reduce(int)", "int why(int,int)", "int undo()",
        "int entry(int,int,boolean)", "int count(int)", "int pattern(int,boolean)",
        "int pivot(int,int,int)", "int kind()", "int solution(int,boolean)", "int free()",
        "int zero(int,int,boolean)", "int determinant(boolean)", "int inverse(int,int,boolean)",
        "int minor(int,int,boolean)", "int cramer(int,boolean)",
        "int would(int,int,int,int,boolean)", "int ranked(int,int,int,int)",
        "int residue(int,boolean)", "boolean image(int)", "boolean again(int)"};
    private static final String[] FORBIDDEN = {"throw", "try", "catch", "synchronized", "assert",
        "finally", "throws"};
    private static final int MOST_CLASSES = 12;
    private static final int MOST_FIELDS = 20;
    private static int wrong = 0;

    private static void check(boolean well, String what) {
        if (!well) {
            wrong++;
            System.out.println("not so: " + what);
        }
    }

    private static String told(Method method) {
        StringBuilder all = new StringBuilder();
        for (Class<?> type : method.getParameterTypes()) {
            all.append(all.length() == 0 ? "" : ",").append(type.getName());
        }
        return method.getReturnType().getName() + " " + method.getName() + "(" + all + ")";
    }

    private static void checkFace() {
        Set<String> seen = new TreeSet<>();
        Set<String> names = new TreeSet<>();
        for (Method method : RowPivots.class.getDeclaredMethods()) {
            if (Modifier.isPublic(method.getModifiers())) {
                seen.add(told(method));
                names.add(method.getName());
            }
        }
        check(seen.equals(new TreeSet<>(Arrays.asList(FACE))), "the public methods: " + seen);
        check(RowPivots.class.getDeclaredClasses().length < MOST_CLASSES, "how many classes");
        for (Class<?> type : RowPivots.class.getDeclaredClasses()) {
            check(Modifier.isStatic(type.getModifiers()), type + " is static");
            check(type.getDeclaredFields().length <= MOST_FIELDS, "how many fields " + type + " has");
            checkMethods(type, names);
        }
        checkMethods(RowPivots.class, names);
        for (Field field : RowPivots.class.getDeclaredFields()) {
            boolean isConstant = field.getName().equals("NONE") || field.getName().equals("UNKNOWN");
            int modifiers = field.getModifiers();
            check(isConstant ? Modifier.isPublic(modifiers) : Modifier.isPrivate(modifiers),
                "who sees " + field);
            check(!Modifier.isStatic(modifiers) || Modifier.isFinal(modifiers), field + " final");
        }
        Constructor<?>[] made = RowPivots.class.getDeclaredConstructors();
        check(made.length == 1 && Modifier.isPublic(made[0].getModifiers())
            && made[0].getParameterCount() == 0, "the constructor");
        check(Modifier.isFinal(RowPivots.class.getModifiers()), "the class is final");
    }

    /** The face that the document itself has, where it can be read. */
    private static void checkDocument() throws Exception {
        Path path = Path.of("../shared/DOC.md");
        if (!Files.exists(path)) {
            System.out.println("note: there is no document to read the face from");
            return;
        }
        Set<String> said = new TreeSet<>();
        Matcher lines = Pattern.compile("\n    public (int|boolean) (\\w+)\\(([^)]*)\\);")
            .matcher(new String(Files.readAllBytes(path), StandardCharsets.UTF_8));
        while (lines.find()) {
            String types = lines.group(3).replaceAll(" \\w+(?=,|$)", "").replace(" ", "");
            said.add(lines.group(1) + " " + lines.group(2) + "(" + types + ")");
        }
        check(said.equals(new TreeSet<>(Arrays.asList(FACE))), "the document's face: " + said);
    }

    private static void checkMethods(Class<?> type, Set<String> names) {
        for (Method method : type.getDeclaredMethods()) {
            boolean isPublic = Modifier.isPublic(method.getModifiers());
            check(isPublic || !names.contains(method.getName()), "the name of " + method);
            check(method.getParameterCount() <= 7, "seven parameters: " + method);
            check(type != RowPivots.class || isPublic
                || Modifier.isPrivate(method.getModifiers()), "who sees " + method);
        }
    }

    private static void checkSource() throws Exception {
        Path path = Path.of("src/main/java/RowPivots.java");
        String source = new String(Files.readAllBytes(path), StandardCharsets.UTF_8);
        String code = source.replaceAll("(?s)/\\*.*?\\*/", "").replaceAll("//[^\n]*", "");
        for (String word : FORBIDDEN) {
            check(!Pattern.compile("\\b" + word + "\\b").matcher(code).find(), "no " + word);
        }
        check(!code.contains("->") && !code.contains("::"), "no lambda, no method reference");
        Matcher imports = Pattern.compile("import ([^;]*);").matcher(code);
        while (imports.find()) {
            check(imports.group(1).equals("java.util.Arrays"), "import " + imports.group(1));
        }
    }

    public static void main(String[] args) throws Exception {
        checkFace();
        checkDocument();
        checkSource();
        System.out.println(wrong == 0 ? "the face is as due" : wrong + " are not so");
        if (wrong != 0) {
            System.exit(1);
        }
    }
}
