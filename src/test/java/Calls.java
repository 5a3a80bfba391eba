import java.lang.reflect.InvocationTargetException;
import java.lang.reflect.Method;
import java.util.HashMap;
import java.util.Map;

/** One object under test, called by the names of its methods; an exception answers "throws.Name". */
final class Calls {
    private static final Map<String, Method> METHODS = new HashMap<>();
    static int wrong = 0;
    static int checks = 0;

    static {
        for (Method method : DataflowLab.class.getDeclaredMethods()) {
            if (java.lang.reflect.Modifier.isPublic(method.getModifiers())) {
                METHODS.put(method.getName(), method);
            }
        }
    }

    final DataflowLab lab = new DataflowLab();
    private final String title;

    Calls(String title) {
        this.title = title;
    }

    static Method method(String name) {
        return METHODS.get(name);
    }

    static Object answer(DataflowLab lab, String name, int... arguments) {
        Object[] boxed = new Object[arguments.length];
        for (int i = 0; i < arguments.length; i++) {
            boxed[i] = arguments[i];
        }
        try {
            return METHODS.get(name).invoke(lab, boxed);
        } catch (InvocationTargetException e) {
            return "throws." + e.getCause().getClass().getSimpleName();
        } catch (IllegalAccessException e) {
            throw new IllegalStateException(e);
        }
    }

    /** Calls as written, as in "insertSet(0, 1, 2, 3)". */
    Object answer(String call) {
        int open = call.indexOf('(');
        String inside = call.substring(open + 1, call.length() - 1).trim();
        String[] parts = inside.isEmpty() ? new String[0] : inside.split(",");
        int[] arguments = new int[parts.length];
        for (int i = 0; i < parts.length; i++) {
            arguments[i] = Integer.parseInt(parts[i].trim());
        }
        return answer(lab, call.substring(0, open), arguments);
    }

    /** Calls as written and compares the answer. */
    Calls due(String call, Object want) {
        check(title + ": " + call, answer(call), want);
        return this;
    }

    /** The same answer for each of the values in the place of the % sign. */
    Calls dueEach(String call, Object want, int... values) {
        for (int value : values) {
            due(call.replace("%", Integer.toString(value)), want);
        }
        return this;
    }

    Calls dueBounds(String call) {
        return due(call, "throws.IndexOutOfBoundsException");
    }

    Calls dueArgument(String call) {
        return due(call, "throws.IllegalArgumentException");
    }

    Calls dueState(String call) {
        return due(call, "throws.IllegalStateException");
    }

    Calls dueNoSuch(String call) {
        return due(call, "throws.NoSuchElementException");
    }

    Calls accepts(String call) {
        check(title + ": " + call + " is refused", String.valueOf(answer(call)).startsWith("throws."), false);
        return this;
    }

    /** Calls with each of the values in the place of the % sign, and lets none of them throw. */
    Calls accepts(String call, int... values) {
        for (int value : values) {
            accepts(call.replace("%", Integer.toString(value)));
        }
        return this;
    }

    /** Calls with each of the values in the place of the % sign; every call must throw this exception. */
    Calls refuses(String exception, String call, int... values) {
        for (int value : values) {
            due(call.replace("%", Integer.toString(value)), "throws." + exception);
        }
        return this;
    }

    static void check(String what, Object got, Object want) {
        checks++;
        if (!(got == null ? want == null : got.equals(want))) {
            wrong++;
            if (wrong <= 50) {
                System.out.println(what + " answered " + got + ", due is " + want);
            }
        }
    }

    /** Puts a text, exactly, into the text buffer. */
    Calls text(String text) {
        lab.truncateText(0);
        for (int i = 0; i < text.length(); i += 4) {
            int four = 0;
            for (int k = 0; k < 4; k++) {
                four = four << 8 | (i + k < text.length() ? text.charAt(i + k) & 255 : ' ');
            }
            lab.appendText(four);
        }
        lab.truncateText(text.length());
        return this;
    }

    Calls load(String text) {
        text(text);
        int blocks = lab.loadProgram();
        check(title + ": loads " + text, blocks > 0, true);
        return this;
    }

    Calls refuse(String text, int code, int position) {
        text(text);
        check(title + ": loadProgram of [" + text + "]", lab.loadProgram(), -1);
        check(title + ": errorCode of [" + text + "]", lab.errorCode(), code);
        check(title + ": errorPosition of [" + text + "]", lab.errorPosition(), position);
        return this;
    }

    /** Refuses a text, in which a ^ stands before the first byte of the wrong token, or at the end. */
    Calls refuseAt(String marked, int code) {
        return refuse(marked.replace("^", ""), code, marked.indexOf('^'));
    }

    /** The block as writeBlock writes it. */
    String written(int block) {
        int length = lab.writeBlock(block);
        StringBuilder text = new StringBuilder();
        for (int i = 0; i < length; i++) {
            text.append((char) lab.outputByte(i));
        }
        check(title + ": byte behind the output", lab.outputByte(length), -1);
        return text.toString();
    }

    Calls dueBlock(int block, String want) {
        check(title + ": block " + block, written(block), want);
        return this;
    }

    /** The whole program, as its blocks. */
    Calls dueProgram(String... wanted) {
        check(title + ": blocks", lab.blockCount(), wanted.length);
        for (int b = 0; b < wanted.length && b < lab.blockCount(); b++) {
            dueBlock(b, wanted[b]);
        }
        return this;
    }

    private String program() {
        StringBuilder text = new StringBuilder();
        for (int b = 0; b < lab.blockCount(); b++) {
            text.append("block;").append(written(b));
        }
        return text.toString();
    }

    private void answersOf(StringBuilder text, String names, String arguments) {
        for (String name : names.split(" ")) {
            String call = name + arguments;
            text.append(call).append('=').append(answer(call)).append(' ');
        }
    }

    /** What the analyses and a run answer, for every block, instruction and variable. */
    String answers() {
        StringBuilder text = new StringBuilder();
        answersOf(text, "deadDefinitions pressure expressionCount redundantCount backEdges decidedBranches deadShare meanLive "
            + "auditDifference", "()");
        answersOf(text, "runSteps lastShown", "(1000)");
        for (int b = 0; b < lab.blockCount(); b++) {
            answersOf(text, "instructionsIn predecessors isReachable distanceTo availableAt immediateDominator loopSize "
                + "loopDepth", "(" + b + ")");
            answersOf(text, "visits", "(" + b + ",1000)");
            for (int v = 0; v < 8; v++) {
                answersOf(text, "reachingDefinitions isInitialReaching isLiveIn isLiveOut constantAt", "(" + b + "," + v + ")");
            }
            for (int other = 0; other < lab.blockCount(); other++) {
                answersOf(text, "dominates commonDominator", "(" + b + "," + other + ")");
            }
        }
        for (int i = 0; i < lab.instructionCount(); i++) {
            answersOf(text, "usesOf liveBefore isDead isRedundant constantOf", "(" + i + ")");
            answersOf(text, "onlyDefinition", "(" + i + ",0)");
        }
        return text.toString();
    }

    /** All that can be found out about the object; it is used up by that. */
    String everything() {
        StringBuilder text = new StringBuilder("output ");
        for (int i = 0; lab.outputByte(i) != -1; i++) {
            text.append((char) lab.outputByte(i));
        }
        text.append(" error ").append(lab.errorCode()).append(' ').append(lab.errorPosition());
        text.append(" program ").append(program());
        for (Object left = answer("undo()"); left instanceof Integer; left = answer("undo()")) {
            text.append(" undone, left ").append(left).append(' ').append(program());
        }
        for (int number = 0; number < 2; number++) {
            text.append(" snapshot ").append(answer("restoreSnapshot(" + number + ")")).append(' ').append(program());
        }
        text.append(" text ").append(answer("appendText(538976288)")).append(' ').append(lab.loadProgram());
        return text.append(' ').append(lab.errorPosition()).append(' ').append(program()).toString();
    }

    static void finish(String name) {
        System.out.println(name + ": " + checks + " checks, " + wrong + " wrong");
        if (wrong != 0) {
            System.exit(1);
        }
    }
}
