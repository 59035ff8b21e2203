import java.lang.reflect.InvocationTargetException;
import java.lang.reflect.Method;
import java.lang.reflect.Modifier;
import java.util.NoSuchElementException;

/** Arguments from one end to the other, in every mixture: nothing but what the document names is ever thrown. */
public final class ExtremesTest {
    private static final int[] ENDS = {Integer.MIN_VALUE, -25, -1, 0, 1, 6, 23, 24, 35, 72, 99, Integer.MAX_VALUE};
    private static final int[] WORDS = {0, -1, 0x733b6c41, 0x3b6f3b6e};
    private static final String[] WALLS = {"", "s;lA", "s;s;s;s;lABCDAB;lDCBADC;lAAAAAA;lDDDDDD;o;or3c5;o;n;n;n;n;n"};
    private static final String[] LAWS = {"y:d*h+9999*9999/0", "y:!(!(!([[[h]]]=1)))?1"};

    private static int passed;
    private static int failed;

    public static void main(String[] args) throws IllegalAccessException {
        for (String text : WALLS) {
            for (Method method : WarmWall.class.getDeclaredMethods()) {
                if (Modifier.isPublic(method.getModifiers())) {
                    callAll(made(text), method, new Object[method.getParameterCount()], 0);
                }
            }
        }
        deepTexts();
        System.out.println("ExtremesTest: " + passed + " passed, " + failed + " failed");
        if (failed > 0) {
            System.exit(1);
        }
    }

    private static WarmWall made(String text) {
        WarmWall x = new WarmWall();
        put(x, text);
        x.text(0);
        for (String law : LAWS) {
            x.end(0);
            put(x, law);
            x.text(1);
            x.law(0);
        }
        x.hours(72);
        x.touched(0, 48, 0);
        return x;
    }

    private static void put(WarmWall x, String text) {
        for (int k = 0; k < text.length(); k++) {
            x.feed(text.charAt(k), 0, 0, 0, 0);
        }
    }

    private static void callAll(WarmWall x, Method method, Object[] given, int from) throws IllegalAccessException {
        if (from == given.length) {
            try {
                method.invoke(x, given);
                passed++;
            } catch (InvocationTargetException e) {
                boolean isNamed = method.getName().equals("cell") && e.getCause() instanceof NoSuchElementException;
                if (isNamed) {
                    passed++;
                } else {
                    failed++;
                    System.out.println(method.getName() + java.util.Arrays.toString(given) + " throws " + e.getCause());
                }
            }
            return;
        }
        if (method.getParameterTypes()[from] == boolean.class) {
            for (boolean is : new boolean[] {false, true}) {
                given[from] = is;
                callAll(x, method, given, from + 1);
            }
            return;
        }
        for (int n : method.getName().equals("feed") ? WORDS : ENDS) {
            given[from] = n;
            callAll(x, method, given, from + 1);
        }
    }

    /** A tape full of one sign, or of two by turns, behind what may stand ahead of them. */
    private static void deepTexts() {
        String[] ahead = {"", "y:", "y:h=1?", "s", "s;l", "y:(", "y:["};
        String signs = "!([y:;hs1 lA+=|&?])";
        for (String first : ahead) {
            for (int a = 0; a < signs.length(); a++) {
                for (int b = 0; b < signs.length(); b++) {
                    WarmWall x = new WarmWall();
                    put(x, first);
                    for (int k = first.length(); k < 160; k++) {
                        x.feed(signs.charAt((k & 1) == 0 ? a : b), 0, 0, 0, 0);
                    }
                    for (int sort = 0; sort < 2; sort++) {
                        int fault = x.fault(sort);
                        boolean isTaken = x.text(sort) != WarmWall.NONE;
                        if (fault >= WarmWall.NONE && fault <= 160 && isTaken == (fault == WarmWall.NONE)) {
                            passed++;
                        } else {
                            failed++;
                            System.out.println(first + signs.charAt(a) + signs.charAt(b) + " ..: fault " + fault);
                        }
                        x.hours(9);
                    }
                }
            }
        }
    }
}
