import java.lang.reflect.Constructor;
import java.lang.reflect.Field;
import java.lang.reflect.Method;
import java.lang.reflect.Modifier;
import java.nio.file.Files;
import java.nio.file.Path;
import java.util.Set;
import java.util.TreeSet;
import java.util.regex.Matcher;
import java.util.regex.Pattern;

/** The public face is that of the document, and the source keeps to the rules that can be told from its words. */
public final class FaceTest {
    private static final String[] METHODS = {"int write(int)", "int wipe()", "int fault()", "int domain()",
        "int link(int,int,int)", "int session(int,int)", "int exit(int,int)", "int step(int)", "int round()",
        "int setLink(int,int,int)", "int turn(int)", "int weigh(int,int)", "int add(int)", "int setMode(int)",
        "int undo()", "int choice(int,int,int)", "int heard(int)", "int tells(int,int)", "int mesh(int)",
        "int leaves(int,int)", "int run(int,int)", "int orders(int)", "int healed(int)", "int judge(int,long)",
        "int see(int,int,int)", "int unsee()", "int which()", "int share(int,boolean)", "int lost(int,boolean)",
        "long seed(long)", "int drawn(int)", "int keep(int)", "int again(int)", "int count(int)"};
    private static int wrong;

    public static void main(String[] args) throws Exception {
        classItself();
        methods();
        fields();
        source(Files.readString(Path.of("src/main/java/HiddenExits.java")));
        System.out.println(wrong + " faults of the face");
        if (wrong != 0) {
            System.exit(1);
        }
    }

    private static void must(boolean holds, String what) {
        if (!holds) {
            wrong++;
            System.out.println("not so: " + what);
        }
    }

    private static void classItself() {
        int modifiers = HiddenExits.class.getModifiers();
        must(Modifier.isPublic(modifiers) && Modifier.isFinal(modifiers), "the class is public and final");
        Constructor<?>[] constructors = HiddenExits.class.getDeclaredConstructors();
        must(constructors.length == 1, "there is one constructor");
        must(Modifier.isPublic(constructors[0].getModifiers()), "it is public");
        must(constructors[0].getParameterCount() == 0, "it takes nothing");
        Class<?>[] inside = HiddenExits.class.getDeclaredClasses();
        must(inside.length <= 12, "there are at most twelve classes inside");
        for (Class<?> one : inside) {
            int of = one.getModifiers();
            must(Modifier.isStatic(of) && !Modifier.isPublic(of) && !Modifier.isProtected(of), one + " is static, not public");
            must(one.getDeclaredFields().length <= 20, one + " has at most twenty fields");
        }
    }

    private static void methods() {
        Set<String> names = new TreeSet<>();
        Set<String> due = new TreeSet<>();
        for (String method : METHODS) {
            due.add(method);
            names.add(method.substring(method.indexOf(' ') + 1, method.indexOf('(')));
        }
        Set<String> found = new TreeSet<>();
        for (Method method : HiddenExits.class.getDeclaredMethods()) {
            if (Modifier.isPrivate(method.getModifiers())) {
                must(!names.contains(method.getName()), "no private method bears the name " + method.getName());
                continue;
            }
            must(Modifier.isPublic(method.getModifiers()), method + " is public or private");
            must(!Modifier.isStatic(method.getModifiers()), method + " is not static");
            found.add(signature(method));
        }
        must(found.equals(due), "the public methods are those of the document: " + found);
        for (Class<?> one : HiddenExits.class.getDeclaredClasses()) {
            for (Method method : one.getDeclaredMethods()) {
                must(!names.contains(method.getName()), "no method inside bears the name " + method.getName());
                must(method.getParameterCount() <= 7, method + " takes at most seven parameters");
            }
        }
    }

    private static String signature(Method method) {
        StringBuilder text = new StringBuilder(method.getReturnType() + " " + method.getName() + "(");
        for (Class<?> type : method.getParameterTypes()) {
            text.append(text.charAt(text.length() - 1) == '(' ? "" : ",").append(type);
        }
        return text.append(")").toString();
    }

    private static void fields() throws IllegalAccessException {
        Set<String> constants = new TreeSet<>();
        for (Field field : HiddenExits.class.getDeclaredFields()) {
            int modifiers = field.getModifiers();
            must(!Modifier.isStatic(modifiers) || Modifier.isFinal(modifiers), field + " is final");
            if (!Modifier.isPrivate(modifiers)) {
                must(Modifier.isStatic(modifiers) && field.getType() == int.class, field + " is a constant");
                constants.add(field.getName() + "=" + field.getInt(null));
            }
        }
        Set<String> due = new TreeSet<>(Set.of("UNKNOWN=-1", "OUTSIDE=-2", "STATE=-3", "FULL=-4", "NONE=-9"));
        must(constants.equals(due), "the constants are those of the document: " + constants);
    }

    private static void source(String source) {
        String code = source.replaceAll("(?s)/\\*.*?\\*/", "").replaceAll("//[^\n]*", "");
        String[] forbidden = {"throw", "throws", "try", "catch", "finally", "synchronized", "assert", "package", "protected",
            "float", "double", "var", "Object", "Random", "System\\.(?!arraycopy)", "->", "::", "\\w+Exact", "static \\{"};
        for (String word : forbidden) {
            Matcher found = Pattern.compile(word.matches("\\w+") ? "\\b" + word + "\\b" : word).matcher(code);
            must(!found.find(), "the source has no " + word);
        }
        for (char c : source.toCharArray()) {
            must(c == '\n' || c >= ' ' && c < 127, "the source has plain characters");
        }
        must(code.indexOf("import") == code.lastIndexOf("import"), "there is one import");
        must(code.contains("import java.util.Arrays;"), "it is Arrays");
        int length = 0;
        for (String line : code.split("\n")) {
            length = line.matches("( {4}){1,2}\\S.*\\) \\{") ? 0 : length + 1;
            must(!line.matches("( {4}){1,2}}") || length <= 60, "the method before this line is short: " + line);
        }
    }
}
