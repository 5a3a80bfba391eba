import java.lang.reflect.InvocationTargetException;
import java.lang.reflect.Method;
import java.util.HashMap;
import java.util.Map;

/** One object under test, called by the names of its methods; an exception answers "throws.Name". */
final class Calls {
    private static final Map<String, Method> METHODS = new HashMap<>();
    static int wrong = 0;
    static int checks = 0;

    static {
        for (Method method : DataflowLab.class.getDeclaredMethods()) {
            if (java.lang.reflect.Modifier.isPublic(method.getModifiers())) {
                METHODS.put(method.getName(), method);
            }
        }
    }

    final DataflowLab lab = new DataflowLab();
    private final String title;

    Calls(String title) {
        this.title = title;
    }

    static Method method(String name) {
        return METHODS.get(name);
    }

    static Object answer(DataflowLab lab, String name, int... arguments) {
        Object[] boxed = new Object[arguments.length];
        for (int i = 0; i < arguments.length; i++) {
            boxed[i] = arguments[i];
        }
        try {
            return METHODS.get(name).invoke(lab, boxed);
        } catch (InvocationTargetException e) {
            return "throws." + e.getCause().getClass().getSimpleName();
        } catch (IllegalAccessException e) {
            throw new IllegalStateException(e);
        }
    }

    /** Calls as written, as in "insertSet(0, 1, 2, 3)", and compares the answer. */
    Calls due(String call, Object want) {
        int open = call.indexOf('(');
        String inside = call.substring(open + 1, call.length() - 1).trim();
        String[] parts = inside.isEmpty() ? new String[0] : inside.split(",");
        int[] arguments = new int[parts.length];
        for (int i = 0; i < parts.length; i++) {
            arguments[i] = Integer.parseInt(parts[i].trim());
        }
        check(title + ": " + call, answer(lab, call.substring(0, open), arguments), want);
        return this;
    }

    Calls dueBounds(String call) {
        return due(call, "throws.IndexOutOfBoundsException");
    }

    Calls dueArgument(String call) {
        return due(call, "throws.IllegalArgumentException");
    }

    Calls dueState(String call) {
        return due(call, "throws.IllegalStateException");
    }

    Calls dueNoSuch(String call) {
        return due(call, "throws.NoSuchElementException");
    }

    static void check(String what, Object got, Object want) {
        checks++;
        if (!(got == null ? want == null : got.equals(want))) {
            wrong++;
            if (wrong <= 50) {
                System.out.println(what + " answered " + got + ", due is " + want);
            }
        }
    }

    /** Puts a text, exactly, into the text buffer. */
    Calls text(String text) {
        lab.truncateText(0);
        for (int i = 0; i < text.length(); i += 4) {
            int four = 0;
            for (int k = 0; k < 4; k++) {
                four = four << 8 | (i + k < text.length() ? text.charAt(i + k) & 255 : ' ');
            }
            lab.appendText(four);
        }
        lab.truncateText(text.length());
        return this;
    }

    Calls load(String text) {
        text(text);
        int blocks = lab.loadProgram();
        check(title + ": loads " + text, blocks > 0, true);
        return this;
    }

    Calls refuse(String text, int code, int position) {
        text(text);
        check(title + ": loadProgram of [" + text + "]", lab.loadProgram(), -1);
        check(title + ": errorCode of [" + text + "]", lab.errorCode(), code);
        check(title + ": errorPosition of [" + text + "]", lab.errorPosition(), position);
        return this;
    }

    /** The block as writeBlock writes it. */
    String written(int block) {
        int length = lab.writeBlock(block);
        StringBuilder text = new StringBuilder();
        for (int i = 0; i < length; i++) {
            text.append((char) lab.outputByte(i));
        }
        check(title + ": byte behind the output", lab.outputByte(length), -1);
        return text.toString();
    }

    Calls dueBlock(int block, String want) {
        check(title + ": block " + block, written(block), want);
        return this;
    }

    static void finish(String name) {
        System.out.println(name + ": " + checks + " checks, " + wrong + " wrong");
        if (wrong != 0) {
            System.exit(1);
        }
    }
}
