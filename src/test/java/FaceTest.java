import java.io.IOException;
import java.lang.reflect.Constructor;
import java.lang.reflect.Field;
import java.lang.reflect.Method;
import java.lang.reflect.Modifier;
import java.nio.file.Files;
import java.nio.file.Path;
import java.util.Arrays;
import java.util.NoSuchElementException;
import java.util.Set;
import java.util.TreeSet;
import java.util.regex.Matcher;
import java.util.regex.Pattern;

/** The public face is the document's, and the source keeps to what of ../shared/LANGUAGE.md can be seen from outside. */
public final class FaceTest {
    private static final Path SOURCE = Path.of("src/main/java/WarmWall.java");
    private static final String[] FACE = {
        "int feed(int,int,int,int,int)", "boolean end(int)", "int fault(int)", "int text(int)", "int cell(int,int)",
        "int stone(int,int)", "int oven(int,int)", "int sleeper(int,int)", "boolean law(int)",
        "boolean rain(int,boolean)", "boolean warm(int,int)", "boolean bake(int,int,int)", "int hours(int)",
        "int undo()", "int ahead(int,int,int)", "int air(int)", "int comfort(int,int)", "int choice(int)",
        "int most(int)", "int changed(int,int,int)", "int laid(int)", "int touched(int,int,int)", "int fits(int)",
        "int touch(int,int,int)", "int without(int,int)", "int coldest(int,int)", "int frost(int)", "int spread(int)",
        "int timing(int,int,int)", "int flow(int,int,int)", "int giver(int,int)", "int thaw(int,int)",
        "int steady(int)", "int image()", "int back()", "int count(int)"
    };

    private static int passed;
    private static int failed;

    public static void main(String[] args) throws IOException {
        theFace();
        theMembers();
        theSource(Files.readString(SOURCE));
        System.out.println("FaceTest: " + passed + " passed, " + failed + " failed");
        if (failed > 0) {
            System.exit(1);
        }
    }

    private static void due(String what, boolean is) {
        if (is) {
            passed++;
        } else {
            failed++;
            System.out.println("not so: " + what);
        }
    }

    private static void theFace() {
        Set<String> names = new TreeSet<>();
        Set<String> hidden = new TreeSet<>();
        for (Method method : WarmWall.class.getDeclaredMethods()) {
            StringBuilder told = new StringBuilder(method.getReturnType() + " " + method.getName() + "(");
            for (Class<?> type : method.getParameterTypes()) {
                told.append(told.charAt(told.length() - 1) == '(' ? "" : ",").append(type);
            }
            told.append(")");
            if (Modifier.isPublic(method.getModifiers())) {
                names.add(told.toString());
                due(told + " is no static one", !Modifier.isStatic(method.getModifiers()));
            } else {
                hidden.add(method.getName());
                due(told + " is private", Modifier.isPrivate(method.getModifiers()));
            }
            due(told + " has seven parameters at most", method.getParameterCount() <= 7);
            boolean isCell = told.toString().equals("int cell(int,int)");
            Class<?>[] thrown = method.getExceptionTypes();
            due(told + " tells what it throws", isCell
                    ? thrown.length == 1 && thrown[0] == NoSuchElementException.class : thrown.length == 0);
        }
        due("the public methods are the document's: " + names, names.equals(new TreeSet<>(Arrays.asList(FACE))));
        for (String method : FACE) {
            String name = method.substring(method.indexOf(' ') + 1, method.indexOf('('));
            due("no private method is called " + name, !hidden.contains(name));
        }
        Constructor<?>[] made = WarmWall.class.getDeclaredConstructors();
        due("one constructor", made.length == 1 && made[0].getParameterCount() == 0);
        due("public and final", Modifier.isPublic(WarmWall.class.getModifiers())
                && Modifier.isFinal(WarmWall.class.getModifiers()));
    }

    private static void theMembers() {
        for (Field field : WarmWall.class.getDeclaredFields()) {
            boolean isConstant = Set.of("NONE", "HIDDEN").contains(field.getName());
            int modifiers = field.getModifiers();
            due(field + " is as public as told", isConstant ? Modifier.isPublic(modifiers) : Modifier.isPrivate(modifiers));
        }
        Class<?>[] inner = WarmWall.class.getDeclaredClasses();
        due("some twelve classes", inner.length <= 12);
        for (Class<?> one : inner) {
            due(one + " is private and static", Modifier.isPrivate(one.getModifiers())
                    && Modifier.isStatic(one.getModifiers()));
            int fields = 0;
            for (Field field : one.getDeclaredFields()) {
                boolean isStatic = Modifier.isStatic(field.getModifiers());
                fields += isStatic ? 0 : 1;
                due(field + " is final, if static", !isStatic || Modifier.isFinal(field.getModifiers()));
            }
            due(one + " has twenty fields at most", fields <= 20);
        }
    }

    private static void theSource(String source) {
        String[] never = {
            "->", "::", "\\bsynchronized\\b", "\\bassert\\b", "\\bfinally\\b", "\\bMath\\.\\w+Exact\\b", "\\bSystem\\.(?!arraycopy)",
            "\\bObject\\b", "\\bhashCode\\b", "\\bequals\\b", "\\bcatch\\b", "\\bpackage\\b", "\\bfloat\\b", "\\bvar\\b",
            "\"\\s*\\+", "\\+\\s*\"", "[^\\x00-\\x7f]", "\\bnull\\b"
        };
        for (String word : never) {
            Matcher matcher = Pattern.compile(word).matcher(source);
            due("the source does without " + word, !matcher.find());
        }
        Matcher imports = Pattern.compile("(?m)^import .*$").matcher(source);
        while (imports.find()) {
            due(imports.group(), imports.group().equals("import java.util.NoSuchElementException;"));
        }
        String[] lines = source.split("\n");
        int begun = 0;
        for (int k = 0; k < lines.length; k++) {
            if (lines[k].matches("(    |        )[A-Za-z].*\\) (throws \\w+ )?\\{")) {
                begun = k;
            }
            if (lines[k].matches("(    |        )\\}")) {
                due("sixty lines at most from " + (begun + 1), begun == 0 || k - begun <= 60);
                begun = 0;
            }
        }
    }
}
