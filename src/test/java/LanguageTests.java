import java.io.IOException;
import java.lang.management.ManagementFactory;
import java.lang.reflect.Method;
import java.lang.reflect.Modifier;
import java.nio.file.Files;
import java.nio.file.Path;
import java.util.Arrays;
import java.util.List;
import java.util.TreeSet;
import java.util.regex.Matcher;
import java.util.regex.Pattern;

/** The face of the class, the rules of LANGUAGE.md that can be seen in the text, and the room that calls take. */
public final class LanguageTests {
    private static final String FACE = """
        int appendText 1 IllegalStateException
        int truncateText 1 IllegalArgumentException
        int loadProgram 0
        int errorCode 0
        int errorPosition 0
        int blockCount 0
        int instructionCount 0
        int instructionsIn 1 IndexOutOfBoundsException
        int blockOf 1 IndexOutOfBoundsException
        int kindOf 1 IndexOutOfBoundsException
        int successor 2 IndexOutOfBoundsException NoSuchElementException
        int predecessors 1 IndexOutOfBoundsException
        boolean isReachable 1 IndexOutOfBoundsException
        int distanceTo 1 IndexOutOfBoundsException
        boolean reaches 2 IndexOutOfBoundsException
        int reachingDefinitions 2 IndexOutOfBoundsException IllegalArgumentException
        boolean isInitialReaching 2 IndexOutOfBoundsException IllegalArgumentException
        int usesOf 1 IndexOutOfBoundsException
        int onlyDefinition 2 IndexOutOfBoundsException NoSuchElementException
        boolean isLiveIn 2 IndexOutOfBoundsException IllegalArgumentException
        boolean isLiveOut 2 IndexOutOfBoundsException IllegalArgumentException
        int liveBefore 1 IndexOutOfBoundsException
        boolean isDead 1 IndexOutOfBoundsException
        int deadDefinitions 0
        int pressure 0
        boolean interfere 2 IllegalArgumentException
        int expressionCount 0
        boolean isRedundant 1 IndexOutOfBoundsException
        int redundantCount 0
        int availableAt 1 IndexOutOfBoundsException
        boolean dominates 2 IndexOutOfBoundsException
        int immediateDominator 1 IndexOutOfBoundsException
        int commonDominator 2 IndexOutOfBoundsException
        int backEdges 0
        int loopSize 1 IndexOutOfBoundsException
        int loopDepth 1 IndexOutOfBoundsException
        int constantAt 2 IndexOutOfBoundsException IllegalArgumentException
        int constantOf 1 IndexOutOfBoundsException
        int decidedBranches 0
        int runSteps 1 IllegalArgumentException
        boolean runEnds 1 IllegalArgumentException
        int valueAfter 2 IllegalArgumentException
        int lastShown 1 IllegalArgumentException
        int visits 2 IndexOutOfBoundsException IllegalArgumentException
        int auditDifference 0
        float deadShare 0
        double meanLive 0
        int insertSet 4 IndexOutOfBoundsException IllegalArgumentException IllegalStateException
        int insertCalc 6 IndexOutOfBoundsException IllegalArgumentException IllegalStateException
        int removeInstruction 1 IndexOutOfBoundsException
        int setGoto 2 IndexOutOfBoundsException
        int setBranch 4 IndexOutOfBoundsException IllegalArgumentException
        int removeDead 0
        int foldConstants 0
        int writeBlock 1 IndexOutOfBoundsException
        int outputByte 1
        int undo 0 IllegalStateException
        void saveSnapshot 1 IllegalArgumentException
        void restoreSnapshot 1 IllegalArgumentException IllegalStateException
        """;

    private static final String CONSTANTS = "NONE=-1 SET=0 MOVE=1 CALC=2 SHOW=3 PLUS=0 MINUS=1 TIMES=2";

    private static String describe(Method method) {
        StringBuilder text = new StringBuilder(method.getReturnType().getName());
        text.append(' ').append(method.getName()).append(' ').append(method.getParameterCount());
        for (Class<?> thrown : method.getExceptionTypes()) {
            text.append(' ').append(thrown.getSimpleName());
        }
        return text.toString();
    }

    private static void face() throws IllegalAccessException {
        TreeSet<String> got = new TreeSet<>();
        TreeSet<String> hidden = new TreeSet<>();
        for (Method method : DataflowLab.class.getDeclaredMethods()) {
            if (Modifier.isPublic(method.getModifiers())) {
                got.add(describe(method));
                for (Class<?> type : method.getParameterTypes()) {
                    Calls.check("parameters of " + method.getName(), type, int.class);
                }
            } else if (!method.isSynthetic()) {
                hidden.add(method.getName());
                Calls.check(method.getName() + " is private", Modifier.isPrivate(method.getModifiers()), true);
            }
        }
        Calls.check("the face", got, new TreeSet<>(Arrays.asList(FACE.split("\n"))));
        for (String line : FACE.split("\n")) {
            Calls.check("a private " + line, hidden.contains(line.split(" ")[1]), false);
        }
        StringBuilder constants = new StringBuilder();
        for (java.lang.reflect.Field field : DataflowLab.class.getDeclaredFields()) {
            if (Modifier.isPublic(field.getModifiers())) {
                constants.append(field.getName()).append('=').append(field.get(null)).append(' ');
            } else {
                Calls.check(field.getName() + " is private", Modifier.isPrivate(field.getModifiers()), true);
            }
            Calls.check(field.getName() + " is final", Modifier.isFinal(field.getModifiers()), true);
        }
        Calls.check("the constants", constants.toString().trim(), CONSTANTS);
        Calls.check("constructors", DataflowLab.class.getDeclaredConstructors().length, 1);
        Calls.check("inner classes", DataflowLab.class.getDeclaredClasses().length <= 12, true);
        Calls.check("modifiers", DataflowLab.class.getModifiers(), Modifier.PUBLIC | Modifier.FINAL);
    }

    private static void source() throws IOException {
        String source = Files.readString(Path.of("src/main/java/DataflowLab.java"));
        String code = source.replaceAll("/\\*[\\s\\S]*?\\*/|//[^\n]*|\"[^\"\n]*\"", "\"\"");
        for (String word : List.of("catch", "finally", "synchronized", "assert", "package", "native", "volatile",
                "transient", "getClass", "hashCode", "toString", "Random", "System", "Thread", "->", "::", "@", "/=",
                "%=", "super", "var ", "Exact", "this")) {
            Calls.check("the code has " + word, code.contains(word), false);
        }
        Matcher imports = Pattern.compile("import ([^;]*);").matcher(code);
        while (imports.find()) {
            Calls.check("import", imports.group(1), "java.util.NoSuchElementException");
        }
        Matcher divisions = Pattern.compile("[^*/][/%] *([A-Za-z_(]\\S*)").matcher(code);
        while (divisions.find()) {
            boolean decimal = divisions.group(1).equals("(float)") || divisions.group(1).equals("(double)");
            Calls.check("a divisor that is no literal, " + divisions.group(1), decimal, true);
        }
        Matcher statics = Pattern.compile("\n *(?:private |public )static (?!final|int |long |boolean |void )(\\S+)")
            .matcher(code);
        while (statics.find()) {
            Calls.check("static member", statics.group(1), "Program");
        }
        methodLengths(code);
    }

    private static void methodLengths(String code) {
        String[] lines = code.split("\n");
        int start = 0;
        for (int i = 0; i < lines.length; i++) {
            if (lines[i].matches(" {4}(?: {4})?\\S.*\\{")) {
                start = i;
            } else if (lines[i].matches(" {4}(?: {4})?\\}") && i - start > 60 && !lines[start].contains(" class ")) {
                Calls.check("method of " + (i - start) + " lines", lines[start], "shorter");
            }
        }
    }

    /** A run of 512 calls, all actions and loads among them, stays far below the room of the whole. */
    private static void room() {
        com.sun.management.ThreadMXBean threads =
            (com.sun.management.ThreadMXBean) ManagementFactory.getThreadMXBean();
        long most = 0;
        for (int round = 0; round < 5; round++) {
            long before = threads.getCurrentThreadAllocatedBytes();
            DataflowLab lab = new DataflowLab();
            for (int i = 0; i < 28; i++) {
                lab.appendText(0);
                lab.truncateText(0);
                lab.loadProgram();
                lab.insertCalc(0, 0, i & 7, 1, 2, 3);
                lab.setBranch(i & 3, 1, 2, 3);
                lab.availableAt(1);
                lab.constantAt(1, 2);
                lab.reachingDefinitions(2, 3);
                lab.pressure();
                lab.loopSize(1);
                lab.visits(0, 1000);
                lab.auditDifference();
                lab.writeBlock(0);
                lab.foldConstants();
                lab.removeDead();
                lab.undo();
                lab.saveSnapshot(i & 1);
                lab.restoreSnapshot(i & 1);
            }
            most = threads.getCurrentThreadAllocatedBytes() - before;
        }
        Calls.check("bytes for a run of calls, " + most + ", are few", most < 100000, true);
    }

    public static void main(String[] arguments) throws IOException, IllegalAccessException {
        face();
        source();
        room();
        Calls.finish("LanguageTests");
    }
}
