import java.util.ArrayDeque;
import java.util.ArrayList;
import java.util.Deque;
import java.util.HashSet;
import java.util.List;
import java.util.Set;
import java.util.TreeSet;
import java.util.regex.Matcher;
import java.util.regex.Pattern;

/**
 * The document once more, as slowly and as literally as possible: analyses by searching paths, the text by
 * regular expressions, actions on copies of the whole program. It shares nothing with the class under test.
 */
final class Model {
    static final class Refusal extends RuntimeException {
        final String name;

        Refusal(String name) {
            this.name = name;
        }
    }

    static final class Wrong extends RuntimeException {
        final int code;
        final int position;

        Wrong(int code, int position) {
            this.code = code;
            this.position = position;
        }
    }

    /** An instruction: kind, target, left, operator, right, constant. */
    record Step(int kind, int target, int left, int operator, int right, int constant) {
        boolean defines(int variable) {
            return kind != 3 && target == variable;
        }

        boolean uses(int variable) {
            return kind != 0 && left == variable || kind == 2 && right == variable;
        }

        String expression() {
            return left + " " + operator + " " + right;
        }
    }

    static final class Block {
        final List<Step> steps = new ArrayList<>();
        int variable = -1;
        List<Integer> next = new ArrayList<>();

        Block copy() {
            Block other = new Block();
            other.steps.addAll(steps);
            other.variable = variable;
            other.next = new ArrayList<>(next);
            return other;
        }
    }

    record Point(int block, int index) {
    }

    List<Block> blocks;
    String text = "";
    int errorCode = 0;
    int errorPosition = -1;
    String output = "";
    final Deque<List<Block>> history = new ArrayDeque<>();
    final List<List<Block>> snapshots = new ArrayList<>(java.util.Arrays.asList(null, null));

    static final String FIRST = "block; set a 5; set b 1; set d 7; goto 1; block; calc c a plus b; branch a 2 3; "
        + "block; calc a a minus b; calc e a plus b; goto 1; block; show c; move f d; stop;";

    Model() {
        blocks = new Reader(FIRST).program();
    }

    static List<Block> copy(List<Block> from) {
        List<Block> to = new ArrayList<>();
        for (Block block : from) {
            to.add(block.copy());
        }
        return to;
    }

    // ---- the text

    static final class Reader {
        private static final Pattern TOKEN = Pattern.compile("[a-z]+|[0-9]+|[^a-z0-9 \n]", Pattern.DOTALL);
        final List<String> tokens = new ArrayList<>();
        final List<Integer> starts = new ArrayList<>();
        int now = 0;

        Reader(String text) {
            Matcher matcher = TOKEN.matcher(text);
            while (matcher.find()) {
                tokens.add(matcher.group());
                starts.add(matcher.start());
            }
            tokens.add("");
            starts.add(text.length());
        }

        int start() {
            return starts.get(now);
        }

        boolean isNext(String pattern) {
            return tokens.get(now).matches(pattern);
        }

        String take(String pattern) {
            if (!isNext(pattern)) {
                throw new Wrong(1, start());
            }
            return tokens.get(now++);
        }

        int variable() {
            return take("[a-h]").charAt(0) - 'a';
        }

        int number(int largest) {
            int position = start();
            java.math.BigInteger number = new java.math.BigInteger(take("[0-9]+"));
            if (number.compareTo(java.math.BigInteger.valueOf(largest)) > 0) {
                throw new Wrong(2, position);
            }
            return number.intValue();
        }

        List<Block> program() {
            List<Block> blocks = new ArrayList<>();
            List<int[]> named = new ArrayList<>();
            int instructions = 0;
            do {
                int position = start();
                take("block");
                if (blocks.size() == 12) {
                    throw new Wrong(3, position);
                }
                take(";");
                Block block = new Block();
                while (isNext("set|move|calc|show")) {
                    if (instructions == 40) {
                        throw new Wrong(3, start());
                    }
                    block.steps.add(step());
                    instructions++;
                    take(";");
                }
                exit(block, named);
                take(";");
                blocks.add(block);
            } while (!isNext(""));
            for (int[] one : named) {
                if (one[0] >= blocks.size()) {
                    throw new Wrong(4, one[1]);
                }
            }
            return blocks;
        }

        private Step step() {
            switch (take("set|move|calc|show")) {
                case "set": {
                    int target = variable();
                    return new Step(0, target, -1, -1, -1, number(999));
                }
                case "move": {
                    int target = variable();
                    return new Step(1, target, variable(), -1, -1, -1);
                }
                case "calc": {
                    int target = variable();
                    int left = variable();
                    int operator = List.of("plus", "minus", "times").indexOf(take("plus|minus|times"));
                    return new Step(2, target, left, operator, variable(), -1);
                }
                default:
                    return new Step(3, -1, variable(), -1, -1, -1);
            }
        }

        private void exit(Block block, List<int[]> named) {
            String word = take("stop|goto|branch");
            if (word.equals("branch")) {
                block.variable = variable();
            }
            int count = word.equals("stop") ? 0 : word.equals("goto") ? 1 : 2;
            for (int i = 0; i < count; i++) {
                int position = start();
                int number = number(11);
                named.add(new int[] {number, position});
                block.next.add(number);
            }
        }
    }

    // ---- points and paths

    int count() {
        int sum = 0;
        for (Block block : blocks) {
            sum += block.steps.size();
        }
        return sum;
    }

    Point place(int instruction) {
        int rest = instruction;
        for (int b = 0; b < blocks.size(); b++) {
            int size = blocks.get(b).steps.size();
            if (rest < size) {
                return new Point(b, rest);
            }
            rest -= size;
        }
        throw new IllegalStateException();
    }

    Step step(Point point) {
        List<Step> steps = blocks.get(point.block()).steps;
        return point.index() < steps.size() ? steps.get(point.index()) : null;
    }

    Step step(int instruction) {
        return step(place(instruction));
    }

    Set<Point> next(Point point) {
        Set<Point> found = new HashSet<>();
        if (step(point) != null) {
            found.add(new Point(point.block(), point.index() + 1));
        } else {
            for (int b : blocks.get(point.block()).next) {
                found.add(new Point(b, 0));
            }
        }
        return found;
    }

    List<Point> allPoints() {
        List<Point> found = new ArrayList<>();
        for (int b = 0; b < blocks.size(); b++) {
            for (int i = 0; i <= blocks.get(b).steps.size(); i++) {
                found.add(new Point(b, i));
            }
        }
        return found;
    }

    boolean uses(Point point, int variable) {
        Step step = step(point);
        return step == null ? blocks.get(point.block()).variable == variable : step.uses(variable);
    }

    boolean defines(Point point, int variable) {
        Step step = step(point);
        return step != null && step.defines(variable);
    }

    /** All points on paths from a point that pass no definition of the variable, but for the excepted one. */
    Set<Point> spread(Point from, int variable, Point except) {
        Set<Point> seen = new HashSet<>();
        Deque<Point> open = new ArrayDeque<>();
        seen.add(from);
        open.add(from);
        while (!open.isEmpty()) {
            Point point = open.remove();
            if (defines(point, variable) && !point.equals(except)) {
                continue;
            }
            for (Point next : next(point)) {
                if (seen.add(next)) {
                    open.add(next);
                }
            }
        }
        return seen;
    }

    boolean definitionReaches(int instruction, Point point) {
        Point place = place(instruction);
        Step step = step(place);
        return step.kind() != 3
            && spread(new Point(place.block(), place.index() + 1), step.target(), place).contains(point);
    }

    boolean initialReaches(int variable, Point point) {
        return spread(new Point(0, 0), variable, null).contains(point);
    }

    boolean live(Point point, int variable) {
        for (Point reached : spread(point, variable, null)) {
            if (uses(reached, variable)) {
                return true;
            }
        }
        return false;
    }

    boolean dead(int instruction) {
        Point place = place(instruction);
        Step step = step(place);
        return step.kind() != 3 && !live(new Point(place.block(), place.index() + 1), step.target());
    }

    int liveCount(Point point) {
        int sum = 0;
        for (int v = 0; v < 8; v++) {
            sum += live(point, v) ? 1 : 0;
        }
        return sum;
    }

    boolean clash(int variable, int other) {
        for (int i = 0; i < count(); i++) {
            Step step = step(i);
            Point place = place(i);
            boolean moved = step.kind() == 1 && step.left() == other;
            if (step.defines(variable) && !moved && live(new Point(place.block(), place.index() + 1), other)) {
                return true;
            }
        }
        return false;
    }

    Set<String> expressions() {
        Set<String> found = new TreeSet<>();
        for (int i = 0; i < count(); i++) {
            if (step(i).kind() == 2) {
                found.add(step(i).expression());
            }
        }
        return found;
    }

    record Known(Point point, boolean computed) {
    }

    /** Searches a path from the entry to the point at whose end the expression is not up to date. */
    boolean isAvailable(String expression, Point point) {
        if (!reachable(point.block())) {
            return false;
        }
        Set<Known> seen = new HashSet<>();
        Deque<Known> open = new ArrayDeque<>();
        open.add(new Known(new Point(0, 0), false));
        seen.add(open.peek());
        while (!open.isEmpty()) {
            Known known = open.remove();
            Step step = step(known.point());
            boolean computed = known.computed();
            if (step != null && step.kind() == 2 && step.expression().equals(expression)) {
                computed = true;
            }
            for (int v = 0; v < 8; v++) {
                boolean operand = expression.startsWith(v + " ") || expression.endsWith(" " + v);
                if (operand && step != null && step.defines(v)) {
                    computed = false;
                }
            }
            for (Point next : next(known.point())) {
                Known after = new Known(next, computed);
                if (seen.add(after)) {
                    open.add(after);
                }
            }
        }
        return !seen.contains(new Known(point, false));
    }

    boolean redundant(int instruction) {
        Step step = step(instruction);
        return step.kind() == 2 && isAvailable(step.expression(), place(instruction));
    }

    // ---- blocks

    /** The blocks on paths from a block that do not pass through the banned one. */
    Set<Integer> blocksFrom(int from, int banned) {
        Set<Integer> seen = new TreeSet<>();
        Deque<Integer> open = new ArrayDeque<>();
        if (from != banned) {
            seen.add(from);
            open.add(from);
        }
        while (!open.isEmpty()) {
            for (int next : blocks.get(open.remove()).next) {
                if (next != banned && seen.add(next)) {
                    open.add(next);
                }
            }
        }
        return seen;
    }

    boolean reachable(int block) {
        return blocksFrom(0, -1).contains(block);
    }

    int distance(int block) {
        Set<Integer> here = new TreeSet<>(List.of(0));
        for (int d = 0; d <= 12; d++) {
            if (here.contains(block)) {
                return d;
            }
            Set<Integer> there = new TreeSet<>();
            for (int b : here) {
                there.addAll(blocks.get(b).next);
            }
            here = there;
        }
        return -1;
    }

    boolean dominate(int block, int other) {
        return reachable(block) && reachable(other) && !blocksFrom(0, block).contains(other);
    }

    /** The member of the set that all members dominate. */
    int lowest(Set<Integer> set) {
        for (int d : set) {
            boolean all = true;
            for (int e : set) {
                all &= dominate(e, d);
            }
            if (all) {
                return d;
            }
        }
        return -1;
    }

    Set<Integer> dominatorsOf(int block) {
        Set<Integer> found = new TreeSet<>();
        for (int d = 0; d < blocks.size(); d++) {
            if (dominate(d, block)) {
                found.add(d);
            }
        }
        return found;
    }

    Set<Integer> origins(int head) {
        Set<Integer> found = new TreeSet<>();
        for (int b = 0; b < blocks.size(); b++) {
            if (blocks.get(b).next.contains(head) && dominate(head, b)) {
                found.add(b);
            }
        }
        return found;
    }

    Set<Integer> body(int head) {
        Set<Integer> body = new TreeSet<>();
        Set<Integer> origins = origins(head);
        if (origins.isEmpty()) {
            return body;
        }
        body.add(head);
        body.addAll(origins);
        for (int b = 0; b < blocks.size(); b++) {
            for (int origin : origins) {
                if (reachable(b) && blocksFrom(b, head).contains(origin)) {
                    body.add(b);
                }
            }
        }
        return body;
    }

    // ---- constants; -2 is undecided

    int[] after(Step step, int[] values) {
        int[] result = values.clone();
        if (step.kind() == 0) {
            result[step.target()] = step.constant();
        } else if (step.kind() == 1) {
            result[step.target()] = values[step.left()];
        } else if (step.kind() == 2) {
            int left = values[step.left()];
            int right = values[step.right()];
            result[step.target()] = Math.min(left, right) < 0 ? Math.min(-1, left == -1 || right == -1 ? -1 : -2)
                : compute(step.operator(), left, right);
        }
        return result;
    }

    static int compute(int operator, int left, int right) {
        int raw = operator == 0 ? left + right : operator == 1 ? left - right : left * right;
        return (raw % 1000 + 1000) % 1000;
    }

    int[] atEnd(int block, int[] values) {
        int[] result = values;
        for (Step step : blocks.get(block).steps) {
            result = after(step, result);
        }
        return result;
    }

    static int meet(int one, int other) {
        return one == -2 ? other : other == -2 || one == other ? one : -1;
    }

    int[][] constantsAtBeginnings() {
        int[][] all = new int[blocks.size()][8];
        for (int[] row : all) {
            java.util.Arrays.fill(row, -2);
        }
        for (int round = 0; round < 200; round++) {
            int[][] fresh = new int[blocks.size()][8];
            for (int b = 0; b < blocks.size(); b++) {
                java.util.Arrays.fill(fresh[b], b == 0 ? 0 : -2);
                for (int p = 0; p < blocks.size(); p++) {
                    if (reachable(p) && blocks.get(p).next.contains(b)) {
                        int[] end = atEnd(p, all[p]);
                        for (int v = 0; v < 8; v++) {
                            fresh[b][v] = meet(fresh[b][v], end[v]);
                        }
                    }
                }
            }
            if (java.util.Arrays.deepEquals(fresh, all)) {
                return all;
            }
            all = fresh;
        }
        throw new IllegalStateException("no fixpoint");
    }

    int constant(Point point, int variable) {
        if (!reachable(point.block())) {
            return -1;
        }
        int[] values = constantsAtBeginnings()[point.block()];
        for (int i = 0; i < point.index(); i++) {
            values = after(blocks.get(point.block()).steps.get(i), values);
        }
        return values[variable];
    }

    int given(int instruction) {
        Point place = place(instruction);
        Step step = step(place);
        return step.kind() == 3 ? -1 : constant(new Point(place.block(), place.index() + 1), step.target());
    }

    // ---- runs

    final class Run {
        final int[] values = new int[8];
        final int[] entries = new int[12];
        int steps = 0;
        int shown = -1;
        boolean ended = false;

        Run(int limit) {
            Point point = new Point(0, 0);
            entries[0]++;
            while (steps < limit && !ended) {
                steps++;
                Step step = step(point);
                Block block = blocks.get(point.block());
                if (step == null && block.next.isEmpty()) {
                    ended = true;
                } else if (step == null) {
                    boolean first = block.next.size() == 1 || values[block.variable] != 0;
                    point = new Point(block.next.get(first ? 0 : 1), 0);
                    entries[point.block()]++;
                } else {
                    if (step.kind() == 3) {
                        shown = values[step.left()];
                    } else if (step.kind() == 2) {
                        values[step.target()] = compute(step.operator(), values[step.left()], values[step.right()]);
                    } else {
                        values[step.target()] = step.kind() == 0 ? step.constant() : values[step.left()];
                    }
                    point = new Point(point.block(), point.index() + 1);
                }
            }
        }
    }

    // ---- calls

    private void need(boolean good, String exception) {
        if (!good) {
            throw new Refusal(exception);
        }
    }

    private void needBlock(int block) {
        need(block >= 0 && block < blocks.size(), "IndexOutOfBoundsException");
    }

    private void needInstruction(int instruction) {
        need(instruction >= 0 && instruction < count(), "IndexOutOfBoundsException");
    }

    private void needRange(int value, int lowest, int highest) {
        need(value >= lowest && value <= highest, "IllegalArgumentException");
    }

    private void act() {
        history.push(copy(blocks));
        while (history.size() > 6) {
            history.removeLast();
        }
    }

    private int reachableCount() {
        return blocksFrom(0, -1).size();
    }

    private int number(Point point) {
        int sum = point.index();
        for (int b = 0; b < point.block(); b++) {
            sum += blocks.get(b).steps.size();
        }
        return sum;
    }

    private int insert(int block, int position, Step step) {
        need(count() < 40, "IllegalStateException");
        act();
        blocks.get(block).steps.add(position, step);
        return number(new Point(block, position));
    }

    private int removeAllDead() {
        int removed = 0;
        while (true) {
            List<Point> dead = new ArrayList<>();
            for (int i = 0; i < count(); i++) {
                if (dead(i)) {
                    dead.add(0, place(i));
                }
            }
            if (dead.isEmpty()) {
                return removed;
            }
            for (Point point : dead) {
                blocks.get(point.block()).steps.remove(point.index());
                removed++;
            }
        }
    }

    private int fold() {
        int replaced = 0;
        List<Block> folded = copy(blocks);
        for (int i = 0; i < count(); i++) {
            Step step = step(i);
            if ((step.kind() == 1 || step.kind() == 2) && given(i) != -1) {
                Step set = new Step(0, step.target(), -1, -1, -1, given(i));
                folded.get(place(i).block()).steps.set(place(i).index(), set);
                replaced++;
            }
        }
        blocks = folded;
        return replaced;
    }

    static String letter(int variable) {
        return String.valueOf((char) ('a' + variable));
    }

    String write(int number) {
        Block block = blocks.get(number);
        StringBuilder text = new StringBuilder();
        for (Step step : block.steps) {
            List<String> words = new ArrayList<>(List.of(List.of("set", "move", "calc", "show").get(step.kind())));
            if (step.kind() != 3) {
                words.add(letter(step.target()));
            }
            if (step.kind() != 0) {
                words.add(letter(step.left()));
            }
            if (step.kind() == 2) {
                words.add(List.of("plus", "minus", "times").get(step.operator()));
                words.add(letter(step.right()));
            }
            if (step.kind() == 0) {
                words.add(Integer.toString(step.constant()));
            }
            text.append(String.join(" ", words)).append(';');
        }
        text.append(List.of("stop", "goto", "branch").get(block.next.size()));
        if (block.next.size() == 2) {
            text.append(' ').append(letter(block.variable));
        }
        for (int next : block.next) {
            text.append(' ').append(next);
        }
        return text.append(';').toString();
    }

    String whole() {
        StringBuilder text = new StringBuilder();
        for (int b = 0; b < blocks.size(); b++) {
            text.append("block;").append(write(b));
        }
        return text.toString();
    }

    Object answer(String name, int... a) {
        try {
            return call(name, a);
        } catch (Refusal refusal) {
            return "throws." + refusal.name;
        }
    }

    private Object call(String name, int[] a) {
        switch (name) {
            case "appendText": case "truncateText": case "loadProgram": case "errorCode": case "errorPosition":
                return callTexts(name, a);
            case "insertSet": case "insertCalc": case "removeInstruction": case "setGoto": case "setBranch":
            case "removeDead": case "foldConstants":
                return callActions(name, a);
            case "writeBlock": case "outputByte": case "undo": case "saveSnapshot": case "restoreSnapshot":
                return callOutput(name, a);
            case "runSteps": case "runEnds": case "valueAfter": case "lastShown": case "visits":
                return callRuns(name, a);
            default:
                return callAnalyses(name, a);
        }
    }

    private Object callTexts(String name, int[] a) {
        switch (name) {
            case "appendText":
                need(text.length() + 4 <= 700, "IllegalStateException");
                for (int shift = 24; shift >= 0; shift -= 8) {
                    text += (char) (a[0] >>> shift & 255);
                }
                return text.length();
            case "truncateText":
                needRange(a[0], 0, text.length());
                text = text.substring(0, a[0]);
                return a[0];
            case "loadProgram":
                try {
                    List<Block> fresh = new Reader(text).program();
                    blocks = fresh;
                    history.clear();
                    errorCode = 0;
                    errorPosition = -1;
                    text = "";
                    return fresh.size();
                } catch (Wrong wrong) {
                    errorCode = wrong.code;
                    errorPosition = wrong.position;
                    text = "";
                    return -1;
                }
            case "errorCode":
                return errorCode;
            default:
                return errorPosition;
        }
    }

    private Object callActions(String name, int[] a) {
        switch (name) {
            case "insertSet":
                needBlock(a[0]);
                needRange(a[1], 0, blocks.get(a[0]).steps.size());
                needRange(a[2], 0, 7);
                needRange(a[3], 0, 999);
                return insert(a[0], a[1], new Step(0, a[2], -1, -1, -1, a[3]));
            case "insertCalc":
                needBlock(a[0]);
                needRange(a[1], 0, blocks.get(a[0]).steps.size());
                needRange(a[2], 0, 7);
                needRange(a[3], 0, 7);
                needRange(a[4], 0, 2);
                needRange(a[5], 0, 7);
                return insert(a[0], a[1], new Step(2, a[2], a[3], a[4], a[5], -1));
            case "removeInstruction": {
                needInstruction(a[0]);
                act();
                Point place = place(a[0]);
                blocks.get(place.block()).steps.remove(place.index());
                return count();
            }
            case "setGoto":
                needBlock(a[0]);
                needBlock(a[1]);
                act();
                blocks.get(a[0]).variable = -1;
                blocks.get(a[0]).next = List.of(a[1]);
                return reachableCount();
            case "setBranch":
                needBlock(a[0]);
                needBlock(a[2]);
                needBlock(a[3]);
                needRange(a[1], 0, 7);
                act();
                blocks.get(a[0]).variable = a[1];
                blocks.get(a[0]).next = List.of(a[2], a[3]);
                return reachableCount();
            case "removeDead":
                act();
                return removeAllDead();
            default:
                act();
                return fold();
        }
    }

    private Object callOutput(String name, int[] a) {
        switch (name) {
            case "writeBlock":
                needBlock(a[0]);
                output = write(a[0]);
                return output.length();
            case "outputByte":
                return a[0] >= 0 && a[0] < output.length() ? output.charAt(a[0]) : -1;
            case "undo":
                need(!history.isEmpty(), "IllegalStateException");
                blocks = history.pop();
                return history.size();
            case "saveSnapshot":
                needRange(a[0], 0, 1);
                snapshots.set(a[0], copy(blocks));
                return null;
            default:
                needRange(a[0], 0, 1);
                need(snapshots.get(a[0]) != null, "IllegalStateException");
                blocks = copy(snapshots.get(a[0]));
                history.clear();
                return null;
        }
    }

    private Object callRuns(String name, int[] a) {
        switch (name) {
            case "runSteps":
                needRange(a[0], 1, 1000);
                return new Run(a[0]).steps;
            case "runEnds":
                needRange(a[0], 1, 1000);
                return new Run(a[0]).ended;
            case "valueAfter":
                needRange(a[0], 0, 1000);
                needRange(a[1], 0, 7);
                return new Run(a[0]).values[a[1]];
            case "lastShown":
                needRange(a[0], 0, 1000);
                return new Run(a[0]).shown;
            default:
                needBlock(a[0]);
                needRange(a[1], 0, 1000);
                return new Run(a[1]).entries[a[0]];
        }
    }

    private static final List<String> OF_BLOCK = List.of("instructionsIn", "successor", "predecessors", "isReachable",
        "distanceTo", "reachingDefinitions", "isInitialReaching", "isLiveIn", "isLiveOut", "availableAt", "dominates",
        "immediateDominator", "commonDominator", "loopSize", "loopDepth", "constantAt");
    private static final List<String> OF_INSTRUCTION = List.of("blockOf", "kindOf", "reaches", "usesOf",
        "onlyDefinition", "liveBefore", "isDead", "isRedundant", "constantOf");

    private Object callAnalyses(String name, int[] a) {
        if (OF_BLOCK.contains(name)) {
            needBlock(a[0]);
            if (name.equals("dominates") || name.equals("commonDominator")) {
                needBlock(a[1]);
            } else if (a.length == 2 && !name.equals("successor")) {
                needRange(a[1], 0, 7);
            }
            return callOfBlock(name, a[0], a.length == 2 ? a[1] : 0);
        }
        if (OF_INSTRUCTION.contains(name)) {
            needInstruction(a[0]);
            if (name.equals("reaches")) {
                needBlock(a[1]);
            }
            return callOfInstruction(name, a[0], a.length == 2 ? a[1] : 0);
        }
        return callOfProgram(name, a);
    }

    private Object callOfBlock(String name, int block, int second) {
        Point begin = new Point(block, 0);
        int sum = 0;
        switch (name) {
            case "instructionsIn":
                return blocks.get(block).steps.size();
            case "successor":
                need(second >= 0 && second < blocks.get(block).next.size(), "NoSuchElementException");
                return blocks.get(block).next.get(second);
            case "predecessors":
                for (Block other : blocks) {
                    sum += other.next.contains(block) ? 1 : 0;
                }
                return sum;
            case "isReachable":
                return reachable(block);
            case "distanceTo":
                return distance(block);
            case "reachingDefinitions":
                for (int i = 0; i < count(); i++) {
                    sum += step(i).defines(second) && definitionReaches(i, begin) ? 1 : 0;
                }
                return sum;
            case "isInitialReaching":
                return initialReaches(second, begin);
            case "isLiveIn":
                return live(begin, second);
            case "isLiveOut":
                for (int next : blocks.get(block).next) {
                    sum += live(new Point(next, 0), second) ? 1 : 0;
                }
                return sum > 0;
            case "availableAt":
                for (String expression : expressions()) {
                    sum += isAvailable(expression, begin) ? 1 : 0;
                }
                return sum;
            case "dominates":
                return dominate(block, second);
            case "immediateDominator": {
                Set<Integer> others = dominatorsOf(block);
                others.remove(block);
                return lowest(others);
            }
            case "commonDominator": {
                Set<Integer> both = dominatorsOf(block);
                both.retainAll(dominatorsOf(second));
                return lowest(both);
            }
            case "loopSize":
                return body(block).size();
            case "loopDepth":
                for (int head = 0; head < blocks.size(); head++) {
                    sum += body(head).contains(block) ? 1 : 0;
                }
                return sum;
            case "constantAt":
                return constant(begin, second);
            default:
                throw new IllegalStateException(name);
        }
    }

    private Object callOfInstruction(String name, int instruction, int second) {
        Point place = place(instruction);
        Step step = step(place);
        int sum = 0;
        switch (name) {
            case "blockOf":
                return place.block();
            case "kindOf":
                return step.kind();
            case "reaches":
                return definitionReaches(instruction, new Point(second, 0));
            case "usesOf":
                for (Point point : allPoints()) {
                    boolean used = step.kind() != 3 && uses(point, step.target());
                    sum += used && definitionReaches(instruction, point) ? 1 : 0;
                }
                return sum;
            case "onlyDefinition": {
                need(second == 0 && step.kind() != 0 || second == 1 && step.kind() == 2, "NoSuchElementException");
                int variable = second == 0 ? step.left() : step.right();
                List<Integer> found = new ArrayList<>();
                for (int i = 0; i < count(); i++) {
                    if (step(i).defines(variable) && definitionReaches(i, place)) {
                        found.add(i);
                    }
                }
                return found.size() != 1 || initialReaches(variable, place) ? -1 : found.get(0);
            }
            case "liveBefore":
                return liveCount(place);
            case "isDead":
                return dead(instruction);
            case "isRedundant":
                return redundant(instruction);
            default:
                return given(instruction);
        }
    }

    private int countDead() {
        int sum = 0;
        for (int i = 0; i < count(); i++) {
            sum += dead(i) ? 1 : 0;
        }
        return sum;
    }

    private Object callOfProgram(String name, int[] a) {
        int sum = 0;
        switch (name) {
            case "blockCount":
                return blocks.size();
            case "instructionCount":
                return count();
            case "deadDefinitions":
                return countDead();
            case "pressure":
                for (Point point : allPoints()) {
                    sum = Math.max(sum, liveCount(point));
                }
                return sum;
            case "interfere":
                needRange(a[0], 0, 7);
                needRange(a[1], 0, 7);
                return a[0] != a[1] && (clash(a[0], a[1]) || clash(a[1], a[0]));
            case "expressionCount":
                return expressions().size();
            case "redundantCount":
                for (int i = 0; i < count(); i++) {
                    sum += redundant(i) ? 1 : 0;
                }
                return sum;
            case "backEdges":
                for (int b = 0; b < blocks.size(); b++) {
                    sum += origins(b).size();
                }
                return sum;
            case "decidedBranches":
                for (int b = 0; b < blocks.size(); b++) {
                    Point exit = new Point(b, blocks.get(b).steps.size());
                    boolean branches = blocks.get(b).next.size() == 2;
                    sum += branches && constant(exit, blocks.get(b).variable) != -1 ? 1 : 0;
                }
                return sum;
            case "auditDifference":
                return 0;
            case "deadShare":
                for (int i = 0; i < count(); i++) {
                    sum += step(i).kind() == 3 ? 0 : 1;
                }
                return sum == 0 ? 0.0f : (float) countDead() / (float) sum;
            case "meanLive":
                for (int i = 0; i < count(); i++) {
                    sum += liveCount(place(i));
                }
                return count() == 0 ? 0.0 : (double) sum / (double) count();
            default:
                throw new IllegalStateException(name);
        }
    }
}
