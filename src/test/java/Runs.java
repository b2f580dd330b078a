import java.lang.reflect.InvocationTargetException;
import java.lang.reflect.Method;
import java.util.HashMap;
import java.util.Map;

/**
 * Runs of calls, written as in "addEvent(40)", on one desk after the other, with the answers that are due.
 * Each check stands under a sentence of the document.
 */
final class Runs {
    static final int NO_SUCH_ELEMENT = -1;
    static final int BAD_VALUE = -2;
    static final int FULL = -3;
    static final int NONE = -4;
    static final int STATE = -5;
    static final int UNLIKE = -6;

    private static final int LEAST_INT = Integer.MIN_VALUE;
    private static final int MOST_INT = Integer.MAX_VALUE;
    // What later calls of an object answer is free, so no test may rest on it.
    private static final int MOST_CALLS = 512;
    private static final Map<String, Method> METHODS = methodsByName();

    private LayeredClaims desk = new LayeredClaims();
    private int calls;
    private String sentence = "";
    private int checksOfSentence = 1;
    private int sentences;
    private int wrong;

    private static Map<String, Method> methodsByName() {
        Map<String, Method> methods = new HashMap<>();
        for (Method method : LayeredClaims.class.getMethods()) {
            methods.put(method.getName(), method);
        }
        return methods;
    }

    /** The following checks belong to this sentence. */
    void sentence(String words) {
        if (checksOfSentence == 0) {
            tellWrong("has no check");
        }
        sentence = words;
        checksOfSentence = 0;
        sentences++;
    }

    /** A new desk; each of the calls on it is to answer no error code. */
    void desk(String... setup) {
        desk = new LayeredClaims();
        calls = 0;
        make(setup);
    }

    void make(String... setup) {
        for (String text : setup) {
            int answer = call(text);
            if (answer < 0) {
                tellWrong(text + " answered " + answer + " where the test prepares its desk");
            }
        }
    }

    void due(String text, int want) {
        dueNumber(text, call(text), want);
    }

    void dueNumber(String what, int got, int want) {
        checksOfSentence++;
        if (got != want) {
            tellWrong(what + " answered " + got + ", due is " + want);
        }
    }

    void dueText(String what, String got, String want) {
        checksOfSentence++;
        if (!got.equals(want)) {
            tellWrong(what + ":\n  got    " + got + "\n  due is " + want);
        }
    }

    /** The call is refused with the values, for its "$", next to the allowed ones and far away from them. */
    void dueBeside(String text, int below, int above, int code) {
        for (int value : new int[] {below, above, LEAST_INT, MOST_INT}) {
            due(text.replace("$", Integer.toString(value)), code);
        }
    }

    /** Appends a text, four characters at a time. */
    void write(String text) {
        for (int i = 0; i < text.length(); i += 4) {
            int packed = 0;
            for (int j = i; j < i + 4; j++) {
                packed = packed << 8 | (j < text.length() ? text.charAt(j) : 0);
            }
            make("append(" + packed + ")");
        }
    }

    /** Appends a text and reads it. */
    void dueRead(String text, int want) {
        write(text);
        dueNumber("read() of \"" + text + "\"", call("read()"), want);
    }

    /** Appends a text and reads it; it has a fault at the position, or an entry that is refused begins there. */
    void dueFault(String text, int want, int position) {
        dueRead(text, want);
        dueNumber("faultPosition() after \"" + text + "\"", call("faultPosition()"), position);
    }

    int call(String text) {
        int open = text.indexOf('(');
        Method method = METHODS.get(text.substring(0, open));
        String inner = text.substring(open + 1, text.length() - 1);
        String[] words = inner.isEmpty() ? new String[0] : inner.split(", ");
        Object[] arguments = new Object[words.length];
        for (int i = 0; i < words.length; i++) {
            arguments[i] = Integer.decode(words[i]);
        }
        calls++;
        if (calls > MOST_CALLS) {
            throw new IllegalStateException("the test makes more than " + MOST_CALLS + " calls: " + sentence);
        }
        try {
            return (Integer) method.invoke(desk, arguments);
        } catch (InvocationTargetException e) {
            throw new IllegalStateException(text + " has thrown " + e.getCause() + ": " + sentence, e);
        } catch (IllegalAccessException e) {
            throw new IllegalStateException(e);
        }
    }

    private void tellWrong(String what) {
        wrong++;
        System.out.println("\"" + sentence + "\": " + what);
    }

    /** Ends the test, with exit code 1 if an answer was not as due. */
    void finish() {
        if (checksOfSentence == 0) {
            tellWrong("has no check");
        }
        System.out.println(wrong == 0 ? sentences + " sentences hold" : wrong + " answers are not as due");
        if (wrong != 0) {
            System.exit(1);
        }
    }
}
