import java.lang.reflect.Method;
import java.util.Arrays;
import java.util.Comparator;

/** What the tests share: texts are fed as bytes, answers are compared, and counted. */
final class Check {
    private static int passed = 0;
    private static int failed = 0;
    private static String test = "";

    private Check() {
    }

    static void due(String call, int got, int want) {
        if (got == want) {
            passed++;
        } else {
            failed++;
            System.out.println(test + call + " answered " + got + ", due is " + want);
        }
    }

    /** Runs each test of a class: the methods that are named after a term or a promise. */
    static void cases(Class<?> tests) throws ReflectiveOperationException {
        Method[] methods = tests.getDeclaredMethods();
        Arrays.sort(methods, Comparator.comparing(Method::getName));
        for (Method method : methods) {
            if (method.getName().matches("(term|promise\\d).*")) {
                int before = passed + failed;
                test = method.getName() + ": ";
                method.invoke(null);
                Story.settleAll();
                due("the test has looked at something", passed + failed > before ? 1 : 0, 1);
            }
        }
        test = "";
        finish(tests.getName());
    }

    static void feed(TruthBridge bridge, String text) {
        byte[] bytes = new byte[(text.length() + 19) / 20 * 20];
        for (int i = 0; i < text.length(); i++) {
            bytes[i] = (byte) text.charAt(i);
        }
        for (int i = 0; i < bytes.length; i += 20) {
            bridge.feed(four(bytes, i), four(bytes, i + 4), four(bytes, i + 8), four(bytes, i + 12), four(bytes, i + 16));
        }
        bridge.end(text.length());
    }

    static int four(byte[] bytes, int at) {
        return (bytes[at] & 255) << 24 | (bytes[at + 1] & 255) << 16 | (bytes[at + 2] & 255) << 8 | bytes[at + 3] & 255;
    }

    static int land(TruthBridge bridge, String text) {
        feed(bridge, text);
        return bridge.land();
    }

    static int saying(TruthBridge bridge, String text) {
        feed(bridge, text);
        return bridge.saying();
    }

    static int rule(TruthBridge bridge, String text) {
        feed(bridge, text);
        return bridge.rule();
    }

    /** The answer that a FAULT gives. */
    static int fault(int place, int kind) {
        return -2 - (1 + 8 * place + kind);
    }

    /** A bridge in a land that has been told, with its sayings. */
    static TruthBridge bridge(String land, String... sayings) {
        TruthBridge bridge = new TruthBridge();
        int people = land(bridge, land);
        if (people < 0) {
            due("land(" + land + ")", people, 0);
        }
        for (int i = 0; i < sayings.length; i++) {
            due("saying(" + sayings[i] + ")", saying(bridge, sayings[i]), i);
        }
        return bridge;
    }

    static void finish(String name) {
        System.out.println(name + ": " + passed + " as due, " + failed + " not");
        if (failed != 0) {
            System.exit(1);
        }
    }
}
