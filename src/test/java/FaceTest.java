import java.io.IOException;
import java.lang.reflect.Constructor;
import java.lang.reflect.Field;
import java.lang.reflect.Method;
import java.lang.reflect.Modifier;
import java.nio.file.Files;
import java.nio.file.Path;
import java.util.Arrays;
import java.util.List;
import java.util.TreeSet;
import java.util.regex.Matcher;
import java.util.regex.Pattern;

/** The public face, and those rules of LANGUAGE.md that can be read off the class or its text. */
public final class FaceTest {
    private static final Checks C = new Checks();

    private static final List<String> FACE = List.of(
        "int again(int)", "int ask(int)", "int best(int,int)", "int build(int)", "int chance(int,boolean)",
        "int count(int)", "int die(int)", "int drawn(int)", "int fault()", "int hang(int)", "int judge(int,long)",
        "int keep(int)", "int light(int,int)", "int plan()", "int point(int,int)", "int see(int,int,int)",
        "int shade(int,int)", "int share(int,boolean)", "int spot(int,int)", "int undo()", "int unsee()",
        "int want(int,int)", "int which()", "int wipe()", "int write(int)", "long seed(long)");

    public static void main(String[] args) throws IOException {
        C.part("face");
        face();
        members();
        language(Files.readString(Path.of("src/main/java/LampShares.java")));
        C.finish();
    }

    private static boolean isPublic(int modifiers) {
        return Modifier.isPublic(modifiers);
    }

    private static void face() {
        Class<?> type = LampShares.class;
        C.due("public and final", isPublic(type.getModifiers()) && Modifier.isFinal(type.getModifiers()) ? 1 : 0, 1);
        Constructor<?>[] made = type.getDeclaredConstructors();
        C.due("one constructor", made.length, 1);
        C.due("without parameters", made[0].getParameterCount(), 0);
        C.due("public", isPublic(made[0].getModifiers()) ? 1 : 0, 1);
        TreeSet<String> methods = new TreeSet<>();
        for (Method method : type.getDeclaredMethods()) {
            if (!Modifier.isPrivate(method.getModifiers())) {
                methods.add(signature(method));
                C.due("modifiers of " + method, method.getModifiers(), Modifier.PUBLIC);
            }
        }
        C.same("methods", methods.toString(), new TreeSet<>(FACE).toString());
        TreeSet<String> constants = new TreeSet<>();
        for (Field field : type.getDeclaredFields()) {
            if (!Modifier.isPrivate(field.getModifiers())) {
                constants.add(field.getName());
                C.same("type of " + field, field.getType().toString(), "int");
                C.due("modifiers of " + field, field.getModifiers(), Modifier.PUBLIC | Modifier.STATIC | Modifier.FINAL);
            }
        }
        C.same("constants", constants.toString(), "[FULL, NONE, OUTSIDE, STATE, UNKNOWN]");
    }

    private static String signature(Method method) {
        StringBuilder row = new StringBuilder();
        for (Class<?> parameter : method.getParameterTypes()) {
            row.append(row.length() == 0 ? "" : ",").append(parameter);
        }
        return method.getReturnType() + " " + method.getName() + "(" + row + ")";
    }

    private static void members() {
        TreeSet<String> open = new TreeSet<>();
        for (String one : FACE) {
            open.add(one.substring(one.indexOf(' ') + 1, one.indexOf('(')));
        }
        Class<?>[] inside = LampShares.class.getDeclaredClasses();
        Class<?>[] all = Arrays.copyOf(inside, inside.length + 1);
        all[inside.length] = LampShares.class;
        C.due("at most twelve classes", all.length <= 12 ? 1 : 0, 1);
        for (Class<?> type : all) {
            membersOf(type, open);
        }
    }

    private static void membersOf(Class<?> type, TreeSet<String> faceNames) {
        if (type != LampShares.class) {
            C.due(type + " is static", Modifier.isStatic(type.getModifiers()) ? 1 : 0, 1);
            boolean open = isPublic(type.getModifiers()) || Modifier.isProtected(type.getModifiers());
            C.due(type + " is of the face", open ? 1 : 0, 0);
        }
        for (Method method : type.getDeclaredMethods()) {
            boolean bearsName = !isPublic(method.getModifiers()) && faceNames.contains(method.getName());
            C.due("a name of the face: " + method, bearsName ? 1 : 0, 0);
            C.due("at most seven parameters: " + method, method.getParameterCount() <= 7 ? 1 : 0, 1);
        }
        int fields = 0;
        for (Field field : type.getDeclaredFields()) {
            boolean isStatic = Modifier.isStatic(field.getModifiers());
            C.due("static and not final: " + field, isStatic && !Modifier.isFinal(field.getModifiers()) ? 1 : 0, 0);
            fields += isStatic ? 0 : 1;
        }
        C.due("at most twenty fields: " + type, fields <= 20 ? 1 : 0, 1);
    }

    private static void language(String source) {
        String code = source.replaceAll("(?s)/\\*.*?\\*/", "").replaceAll("//[^\n]*", "");
        String[] ruledOut = {"import", "package", "throw", "throws", "try", "catch", "synchronized", "assert", "lambda",
            "Float", "Double", "System", "Object", "hashCode", "toString", "Exception", "volatile", "native", "var"};
        for (String word : ruledOut) {
            Matcher found = Pattern.compile("\\b" + word + "\\b").matcher(code);
            C.due("the word " + word, found.find() ? 1 : 0, 0);
        }
        C.due("lambda", code.contains("->") || code.contains("::") ? 1 : 0, 0);
        Matcher called = Pattern.compile("\\b(Math|Integer|Long)\\.(\\w+)").matcher(code);
        while (called.find()) {
            C.due(called.group() + " is exact", called.group(2).endsWith("Exact") ? 1 : 0, 0);
        }
        madeInConstructorsAlone(code);
        methodsAreShort(code);
    }

    /** A method begins with a line that ends in ') {' behind 'private' or 'public', and ends at its own indent. */
    private static void methodsAreShort(String code) {
        Matcher method = Pattern.compile("(?ms)^( +)(?:private|public) [^;=]*?\\) \\{$.*?^\\1\\}$").matcher(code);
        int methods = 0;
        while (method.find()) {
            methods++;
            String whole = method.group();
            C.due("more than sixty lines: " + whole.lines().findFirst().get(), whole.lines().count() > 60 ? 1 : 0, 0);
        }
        C.due("methods were found", methods > FACE.size() ? 1 : 0, 1);
    }

    /** No call makes an object: so a run's room is that of the desks it makes. */
    private static void madeInConstructorsAlone(String code) {
        for (String line : code.split("\n")) {
            if (line.contains("new ")) {
                boolean ofField = line.matches("        private final \\w+\\[\\] \\w+ = new \\w+\\[.*\\];");
                boolean ofDesk = line.matches("        \\w+ = new \\w+[(\\[].*;");
                C.due("made by a call: " + line.trim(), ofField || ofDesk ? 0 : 1, 0);
            }
        }
    }
}
