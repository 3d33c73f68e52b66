import java.io.IOException;
import java.lang.reflect.Field;
import java.lang.reflect.Method;
import java.lang.reflect.Modifier;
import java.nio.file.Files;
import java.nio.file.Path;
import java.util.ArrayList;
import java.util.List;
import java.util.Set;
import java.util.TreeSet;
import java.util.regex.Matcher;
import java.util.regex.Pattern;

/** The rules of LANGUAGE.md that the source's words and the compiled classes show. */
public final class LanguageTests {
    private static final Checks CHECKS = new Checks();
    private static final String FACE = "about(int)int asked(int,int,int)int back(int)int "
            + "can(int,int,int)int end(int)int fault(int)int feed(int,int,int,int,int)int fewest()int "
            + "fits(int,int)int free(int)int goal(int)int hush()int image(int)int judge(int)int "
            + "later(int)int lawful(int,int,int)int least()int lies(int)int on(int,int)int open()int "
            + "pull(int,int,int)int richest(int)int room(int)int sight(int,int,int,boolean)int "
            + "spare(int,int)int tell(int,int,int)int town()int undo(int)int untell(int)boolean "
            + "where(int,int)int worth()int ";
    private static final List<String> FORBIDDEN = List.of("\\b(throw|throws|try|catch|finally)\\b",
            "\\b(synchronized|assert|instanceof|protected|package|volatile|var)\\b", "->", "::",
            "\\bimport (?!java\\.util\\.(Arrays|ArrayList|List);)", "\\bwhile \\(true\\)", "for \\(;",
            "\\w+Exact\\b", "\"\\s*\\+|\\+\\s*\"", "\\b(MAX_VALUE|MIN_VALUE|Random|System\\.(?!arraycopy))");

    public static void main(String[] args) throws IOException {
        String source = Files.readString(Path.of("src/main/java/RailHouses.java"));
        words(source.replaceAll("(?s)/\\*.*?\\*/", "").replaceAll("//[^\n]*", ""));
        methods(source);
        List<Class<?>> classes = new ArrayList<>();
        classes.add(RailHouses.class);
        classes.addAll(List.of(RailHouses.class.getDeclaredClasses()));
        CHECKS.part("classes");
        CHECKS.due("at most twelve", classes.size() <= 12, true);
        face();
        for (Class<?> one : classes) {
            members(one);
        }
        CHECKS.close();
    }

    private static void words(String code) {
        CHECKS.part("words");
        for (String forbidden : FORBIDDEN) {
            Matcher matcher = Pattern.compile(forbidden).matcher(code);
            CHECKS.due("no " + forbidden, matcher.find(), false);
        }
        CHECKS.due("ASCII alone", code.chars().allMatch(sign -> sign < 128), true);
    }

    private static void methods(String source) {
        CHECKS.part("methods");
        Matcher matcher = Pattern.compile(
                "\n( +)[a-zA-Z\\[\\] ]*\\b(\\w+)\\(([^;{}()]*)\\) \\{\n(.*?)\n\\1\\}", Pattern.DOTALL)
                .matcher(source);
        int many = 0;
        while (matcher.find()) {
            many++;
            CHECKS.due("lines of " + matcher.group(2),
                    matcher.group(4).split("\n").length <= 58, true);
            CHECKS.due("parameters of " + matcher.group(2),
                    matcher.group(3).split(",").length <= 7, true);
        }
        CHECKS.due("methods were found", many > 100, true);
    }

    private static void face() {
        CHECKS.part("face");
        Set<String> face = new TreeSet<>();
        for (Method method : RailHouses.class.getDeclaredMethods()) {
            int modifiers = method.getModifiers();
            if (Modifier.isPublic(modifiers)) {
                StringBuilder types = new StringBuilder();
                for (Class<?> type : method.getParameterTypes()) {
                    types.append(types.isEmpty() ? "" : ",").append(type.getName());
                }
                face.add(method.getName() + "(" + types + ")" + method.getReturnType());
            } else {
                CHECKS.due(method + " is private", Modifier.isPrivate(modifiers), true);
            }
        }
        String all = String.join(" ", face) + " ";
        CHECKS.due("the face is the document's: " + all, all.equals(FACE), true);
        CHECKS.due("constructors", RailHouses.class.getDeclaredConstructors().length, 1);
        CHECKS.due("public", Modifier.isPublic(RailHouses.class.getModifiers()), true);
        CHECKS.due("final", Modifier.isFinal(RailHouses.class.getModifiers()), true);
        for (Field field : RailHouses.class.getDeclaredFields()) {
            boolean isConstant = field.getName().equals("NONE") || field.getName().equals("GAP");
            CHECKS.due(field + "", Modifier.isPublic(field.getModifiers()), isConstant);
            CHECKS.due(field + "", Modifier.isPrivate(field.getModifiers()), !isConstant);
        }
    }

    private static void members(Class<?> one) {
        CHECKS.part(one.getName());
        if (one != RailHouses.class) {
            CHECKS.due("static", Modifier.isStatic(one.getModifiers()), true);
            CHECKS.due("no classes inside", one.getDeclaredClasses().length, 0);
            for (Method method : one.getDeclaredMethods()) {
                CHECKS.due(method.getName() + " is no public one's name",
                        FACE.contains(" " + method.getName() + "("), false);
            }
        }
        int fields = 0;
        Set<String> constants = Set.of("int", "long", "boolean", "char", "class java.lang.String");
        for (Field field : one.getDeclaredFields()) {
            if (!Modifier.isStatic(field.getModifiers())) {
                fields++;
                continue;
            }
            CHECKS.due(field + " is final", Modifier.isFinal(field.getModifiers()), true);
            CHECKS.due(field + " is of a constant's type",
                    constants.contains(field.getType().toString()), true);
        }
        CHECKS.due("at most twenty fields", fields <= 20, true);
    }
}
