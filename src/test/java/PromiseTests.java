import java.util.List;

/** The promises one by one: ordinary calls, the edges that the document names, and wrong arguments. */
public final class PromiseTests {
    // Blocks 0..5; 1 and 2 are the bodies of a loop, 4 is unreachable and leads into 3, 5 is unreachable.
    private static final String GRAPH =
        "block;set a 2;set b 3;calc c a plus b;goto 1;"
        + "block;calc d a plus b;branch a 2 3;"
        + "block;calc a a minus b;move e a;goto 1;"
        + "block;calc f a plus b;show f;show g;stop;"
        + "block;set g 1;calc h a times b;goto 3;"
        + "block;show h;branch h 4 4;";

    private static Calls fresh(String title) {
        return new Calls(title);
    }

    private static Calls graph(String title) {
        return new Calls(title).load(GRAPH);
    }

    private static String repeat(String text, int times) {
        return text.repeat(times);
    }

    private static String stops(int blocks) {
        return repeat("block;stop;", blocks);
    }

    private static String shows(int instructions) {
        return "block;" + repeat("show a;", instructions) + "stop;";
    }

    // ---- texts

    private static void promise1() {
        Calls calls = fresh("1").due("blockCount()", 4).due("instructionCount()", 8);
        calls.due("errorCode()", 0).due("errorPosition()", -1).due("outputByte(0)", -1);
        calls.dueState("undo()").dueState("restoreSnapshot(0)").dueState("restoreSnapshot(1)");
        calls.dueArgument("truncateText(1)").due("truncateText(0)", 0);
        calls.dueBlock(0, "set a 5;set b 1;set d 7;goto 1;");
        calls.dueBlock(1, "calc c a plus b;branch a 2 3;");
        calls.dueBlock(2, "calc a a minus b;calc e a plus b;goto 1;");
        calls.dueBlock(3, "show c;move f d;stop;");
    }

    private static void promise2() {
        Calls calls = fresh("2").due("appendText(1651273571)", 4).due("appendText(-1)", 8);
        for (int length = 12; length <= 700; length += 4) {
            calls.due("appendText(0)", length);
        }
        calls.dueState("appendText(0)").dueState("appendText(0)");
        calls.due("truncateText(699)", 699).dueState("appendText(0)");
        calls.due("truncateText(697)", 697).dueState("appendText(0)");
        calls.due("truncateText(696)", 696).due("appendText(0)", 700);
        // The bytes 200, 98, 108, 111: the first byte is the most significant one.
        fresh("2").due("appendText(-933073809)", 4).due("loadProgram()", -1).due("errorPosition()", 0);
        fresh("2").due("appendText(" + ('b' << 24 | 'l' << 16 | 'o' << 8 | 'c') + ")", 4)
            .due("appendText(" + ('k' << 24 | ';' << 16 | 's' << 8 | 't') + ")", 8)
            .due("appendText(" + ('o' << 24 | 'p' << 16 | ';' << 8 | '\n') + ")", 12).due("loadProgram()", 1);
    }

    private static void promise3() {
        Calls calls = fresh("3").text("block;stop;!").due("truncateText(12)", 12).dueArgument("truncateText(13)");
        calls.dueArgument("truncateText(-1)").dueArgument("truncateText(-2147483648)");
        calls.dueArgument("truncateText(2147483647)");
        calls.due("truncateText(11)", 11).dueArgument("truncateText(12)").due("loadProgram()", 1);
        calls.due("truncateText(0)", 0).dueArgument("truncateText(1)");
    }

    private static void promise4() {
        fresh("4").load("block;stop;").due("blockCount()", 1).due("instructionCount()", 0);
        fresh("4").load("  block\n;set\na0007;stop\n;\n ").dueBlock(0, "set a 7;stop;");
        fresh("4").load("block;set a000000000000000000000000999;goto 00;").dueBlock(0, "set a 999;goto 0;");
        fresh("4").load("block;branch h 1 0;block;goto 1;").dueBlock(0, "branch h 1 0;");
        // Snapshots stay, actions are forgotten, the text buffer is empty.
        Calls calls = fresh("4");
        calls.due("saveSnapshot(1)", null).due("removeDead()", 3).load("block;stop;").dueState("undo()");
        calls.dueArgument("truncateText(1)").due("restoreSnapshot(1)", null).due("instructionCount()", 8);
        // An error changes nothing but the text buffer and the report.
        Calls kept = fresh("4").due("removeDead()", 3).refuse("block;set a 1;stop", 1, 18);
        kept.dueArgument("truncateText(1)").due("instructionCount()", 5).due("undo()", 0);
        kept.due("loadProgram()", -1).due("errorCode()", 1).due("errorPosition()", 0);
        fresh("4").load(stops(12)).due("blockCount()", 12);
        fresh("4").load(shows(40)).due("instructionCount()", 40);
        String longest = "block;" + repeat("set a 0;", 40) + "stop;";
        fresh("4").load(longest + repeat(" ", 700 - longest.length())).due("instructionCount()", 40);
    }

    private static void promise5And6() {
        fresh("5").due("errorCode()", 0).due("errorPosition()", -1);
        fresh("5").refuse("", 1, 0).refuse("  \n", 1, 3).refuse("block", 1, 5).refuse("block ; ", 1, 8);
        fresh("5").refuse("stop;", 1, 0).refuse("block stop;", 1, 6).refuse("blocks;stop;", 1, 0);
        fresh("5").refuse("block;stop", 1, 10).refuse("block;stop;stop;", 1, 11).refuse("block;stop;;", 1, 11);
        fresh("5").refuse("block;;stop;", 1, 6).refuse("block;block;stop;", 1, 6).refuse("bl ock;stop;", 1, 0);
        fresh("5").refuse("block;set 1 a;stop;", 1, 10).refuse("block;set aa 1;stop;", 1, 10);
        fresh("5").refuse("block;set i 1;stop;", 1, 10).refuse("block;set a b;stop;", 1, 12);
        fresh("5").refuse("block;move a 1;stop;", 1, 13).refuse("block;show;stop;", 1, 10);
        fresh("5").refuse("block;show 1;stop;", 1, 11).refuse("block;show a b;stop;", 1, 13);
        fresh("5").refuse("block;calc a b plus 3;stop;", 1, 20).refuse("block;calc a b c c;stop;", 1, 15);
        fresh("5").refuse("block;calc a b over c;stop;", 1, 15).refuse("block;calc a plus b c;stop;", 1, 13);
        fresh("5").refuse("block;goto a;", 1, 11).refuse("block;goto;", 1, 10).refuse("block;branch 0 0 0;", 1, 13);
        fresh("5").refuse("block;branch a 0;", 1, 16).refuse("block;branch a 0 0 0;", 1, 19);
        fresh("5").refuse("block;stop 0;", 1, 11).refuse("block;goto 0 stop;", 1, 13);
        // Words that differ from the right ones in one letter, or go on.
        fresh("5").refuse("clock;stop;", 1, 0).refuse("block;get a 1;stop;", 1, 6).refuse("block;stopz;", 1, 6);
        fresh("5").refuse("block;set az 1;stop;", 1, 10).refuse("block;calc a b plux c;stop;", 1, 15);
        fresh("5").refuse("block;goto 0a;", 1, 12).refuse("block;branch a0 0 ;block;goto9;", 4, 29);
        // Bytes that belong to no token.
        fresh("5").refuse("Block;stop;", 1, 0).refuse("blocK;stop;", 1, 0).refuse("block;set a -1;stop;", 1, 12);
        fresh("5").refuse("block;stop;\t", 1, 11).refuse("block;stop;\0", 1, 11).refuse("block;st\u00e9op;", 1, 6);
        fresh("5").refuse("block;stop;\u00ff", 1, 11).refuse("block\r;stop;", 1, 5);
        fresh("5").refuse("block;set a 1.5;stop;", 1, 13);
        // Too large numbers, before or behind other errors.
        fresh("5").refuse("block;set a 1000;stop;", 2, 12).refuse("block;set a 99999999999999999999;stop;", 2, 12);
        fresh("5").refuse("block;set a 4294967296;stop;", 2, 12).refuse("block;set a 1000", 2, 12);
        fresh("5").refuse("block;set a 18446744073709551616;", 2, 12).refuse("block;set a 0001000x", 2, 12);
        fresh("5").refuse("block;goto 12;", 2, 11).refuse("block;branch a 0 12;", 2, 17);
        fresh("5").refuse("block;branch a 12 0;", 2, 15).refuse("block;branch a 3 12;", 2, 17);
        fresh("5").refuse("block;goto 5;block;goto 12;", 2, 24).refuse("block;goto 5;block;stop", 1, 23);
        // Too many blocks and instructions.
        fresh("5").refuse(stops(13), 3, 132).refuse(stops(12) + "blocks;", 1, 132).refuse(stops(12) + "set", 1, 132);
        fresh("5").refuse(stops(12) + " block", 3, 133).refuse(stops(12) + "stop;", 1, 132);
        fresh("5").refuse(shows(41), 3, 286).refuse("block;" + repeat("show a;", 40) + "set", 3, 286);
        fresh("5").refuse("block;" + repeat("show a;", 40) + "plus", 1, 286);
        fresh("5").refuse("block;" + repeat("show a;", 40) + "stop;block; move", 3, 298);
        fresh("5").refuse("block;" + repeat("show a;", 40) + "goto 12;", 2, 291);
        fresh("5").refuse("block;goto 9;block;" + repeat("show a;", 41), 3, 299);
        // Blocks that the program does not have.
        fresh("5").refuse("block;goto 1;", 4, 11).refuse("block;branch a 0 1;", 4, 17);
        fresh("5").refuse("block;branch a 1 2;", 4, 15).refuse("block;goto 2;block;goto 3;", 4, 11);
        fresh("5").refuse("block;goto 1;block;goto 0011;block;goto 4;", 4, 24);
        fresh("4").load(stops(11) + "block;branch a 11 11;").due("successor(11,0)", 11).due("successor(11,1)", 11);
        fresh("5").refuse(stops(11) + "block;goto 12;", 2, 132).load(stops(11) + "block;goto 11;");
        // A good text clears the report; nothing else does.
        Calls calls = fresh("5").refuse("block;goto 1;", 4, 11).due("removeDead()", 3).due("undo()", 0);
        calls.due("saveSnapshot(0)", null).due("restoreSnapshot(0)", null).due("writeBlock(0)", 31);
        calls.due("errorCode()", 4).due("errorPosition()", 11).due("appendText(0)", 4).due("errorCode()", 4);
        calls.load("block;stop;").due("errorCode()", 0).due("errorPosition()", -1);
    }

    // ---- the graph and the instructions

    private static void promise7To11() {
        graph("7").due("blockCount()", 6).due("instructionCount()", 12);
        Calls calls = graph("9").due("instructionsIn(0)", 3).due("instructionsIn(5)", 1).dueBounds("instructionsIn(6)");
        calls.dueBounds("instructionsIn(-1)").dueBounds("instructionsIn(2147483647)");
        calls.dueBounds("instructionsIn(-2147483648)");
        fresh("9").load(stops(12)).due("instructionsIn(11)", 0).dueBounds("instructionsIn(12)");
        graph("10").due("blockOf(0)", 0).due("blockOf(2)", 0).due("blockOf(3)", 1).due("blockOf(4)", 2)
            .due("blockOf(8)", 3).due("blockOf(11)", 5).dueBounds("blockOf(12)").dueBounds("blockOf(-1)");
        fresh("10").load("block;goto 1;block;goto 2;block;show a;stop;").due("blockOf(0)", 2);
        fresh("10").load("block;stop;").dueBounds("blockOf(0)");
        graph("11").due("kindOf(0)", 0).due("kindOf(5)", 1).due("kindOf(2)", 2).due("kindOf(7)", 3)
            .dueBounds("kindOf(12)").dueBounds("kindOf(-1)");
        fresh("11").load(shows(40)).due("kindOf(39)", 3).dueBounds("kindOf(40)");
    }

    private static void promise12To15() {
        Calls calls = graph("12").due("successor(0,0)", 1).due("successor(1,0)", 2).due("successor(1,1)", 3);
        calls.due("successor(5,0)", 4).due("successor(5,1)", 4).dueNoSuch("successor(0,1)");
        calls.dueNoSuch("successor(3,0)").dueNoSuch("successor(3,1)").dueNoSuch("successor(1,2)");
        calls.dueNoSuch("successor(1,-1)").dueBounds("successor(6,0)").dueBounds("successor(-1,2)");
        Calls known = graph("13").due("predecessors(0)", 0).due("predecessors(1)", 2).due("predecessors(3)", 2);
        known.due("predecessors(4)", 1).due("predecessors(5)", 0).dueBounds("predecessors(6)");
        known.dueBounds("predecessors(-1)");
        fresh("13").load("block;goto 0;").due("predecessors(0)", 1);
        Calls reached = graph("14").due("isReachable(0)", true).due("isReachable(2)", true).due("isReachable(3)", true);
        reached.due("isReachable(4)", false).due("isReachable(5)", false).dueBounds("isReachable(6)");
        reached.dueBounds("isReachable(-1)");
        Calls far = graph("15").due("distanceTo(0)", 0).due("distanceTo(1)", 1).due("distanceTo(2)", 2);
        far.due("distanceTo(3)", 2).due("distanceTo(4)", -1).dueBounds("distanceTo(6)").dueBounds("distanceTo(-1)");
        StringBuilder chain = new StringBuilder();
        for (int b = 0; b < 11; b++) {
            chain.append("block;goto ").append(b + 1).append(';');
        }
        fresh("15").load(chain + "block;goto 0;").due("distanceTo(11)", 11).due("distanceTo(0)", 0)
            .due("setGoto(5,7)", 11).due("distanceTo(11)", 10).due("distanceTo(6)", -1);
    }

    // ---- reaching definitions

    private static void promise16To18() {
        Calls calls = graph("16").due("reaches(0,1)", true).due("reaches(0,2)", true).due("reaches(0,0)", false);
        calls.due("reaches(4,1)", true).due("reaches(4,3)", true).due("reaches(4,4)", false);
        calls.due("reaches(9,3)", true).due("reaches(9,4)", false).due("reaches(7,3)", false);
        calls.dueBounds("reaches(12,0)").dueBounds("reaches(-1,0)").dueBounds("reaches(0,6)").dueBounds("reaches(0,-1)");
        // A definition reaches the beginning of its own block round a loop, and itself does not stop it.
        fresh("16").load("block;set a 1;goto 0;").due("reaches(0,0)", true).due("reachingDefinitions(0,0)", 1);
        fresh("16").load("block;set a 1;set a 2;goto 0;").due("reaches(0,0)", false).due("reaches(1,0)", true);
        fresh("16").load("block;show a;goto 0;").due("reaches(0,0)", false);
        Calls sums = graph("17").due("reachingDefinitions(1,0)", 2).due("reachingDefinitions(3,0)", 2);
        sums.due("reachingDefinitions(3,6)", 1).due("reachingDefinitions(0,0)", 0).due("reachingDefinitions(5,0)", 0);
        sums.dueBounds("reachingDefinitions(6,0)").dueBounds("reachingDefinitions(-1,9)");
        sums.dueArgument("reachingDefinitions(0,8)").dueArgument("reachingDefinitions(0,-1)");
        Calls initial = graph("18").due("isInitialReaching(0,0)", true).due("isInitialReaching(1,0)", false);
        initial.due("isInitialReaching(3,4)", true).due("isInitialReaching(3,3)", false);
        initial.due("isInitialReaching(3,6)", true).due("isInitialReaching(4,6)", false);
        initial.dueBounds("isInitialReaching(6,0)").dueBounds("isInitialReaching(-1,8)");
        initial.dueArgument("isInitialReaching(0,8)").dueArgument("isInitialReaching(0,-1)");
        fresh("18").load("block;set a 1;goto 0;").due("isInitialReaching(0,0)", true);
    }

    private static void promise19And20() {
        Calls calls = graph("19").due("usesOf(0)", 5).due("usesOf(1)", 4).due("usesOf(4)", 5).due("usesOf(2)", 0);
        calls.due("usesOf(6)", 1).due("usesOf(7)", 0).due("usesOf(9)", 1).due("usesOf(10)", 0);
        calls.dueBounds("usesOf(12)").dueBounds("usesOf(-1)");
        // Both operands count once, a branch counts, unreachable ones count.
        fresh("19").load("block;set a 1;calc b a times a;branch a 0 0;block;goto 0;").due("usesOf(0)", 2);
        fresh("19").load("block;stop;block;set a 1;show a;goto 1;").due("usesOf(0)", 1);
        fresh("19").load("block;calc a a plus a;goto 0;").due("usesOf(0)", 1);
        Calls only = graph("20").due("onlyDefinition(2,0)", 0).due("onlyDefinition(2,1)", 1);
        only.due("onlyDefinition(3,0)", -1).due("onlyDefinition(3,1)", 1).due("onlyDefinition(5,0)", 4);
        only.due("onlyDefinition(7,0)", 6).due("onlyDefinition(8,0)", -1).due("onlyDefinition(10,0)", -1);
        only.dueNoSuch("onlyDefinition(0,0)").dueNoSuch("onlyDefinition(0,1)").dueNoSuch("onlyDefinition(5,1)");
        only.dueNoSuch("onlyDefinition(7,1)").dueNoSuch("onlyDefinition(2,2)").dueNoSuch("onlyDefinition(2,-1)");
        only.dueBounds("onlyDefinition(12,0)").dueBounds("onlyDefinition(-1,5)");
        // Alone in an unreachable block, where the initial value does not come.
        fresh("20").load("block;stop;block;set a 1;move b a;stop;").due("onlyDefinition(1,0)", 0);
        fresh("20").load("block;move b a;stop;").due("onlyDefinition(0,0)", -1);
        fresh("20").load("block;branch b 1 2;block;set a 1;goto 2;block;show a;stop;").due("onlyDefinition(1,0)", -1);
        String end = "block;" + repeat("show a;", 38) + "set b 1;show b;stop;";
        fresh("20").load(end).due("onlyDefinition(39,0)", 38);
    }

    // ---- live variables

    private static void promise21To24() {
        Calls in = graph("21").due("isLiveIn(0,0)", false).due("isLiveIn(1,0)", true).due("isLiveIn(1,1)", true);
        in.due("isLiveIn(0,6)", true).due("isLiveIn(1,5)", false).due("isLiveIn(4,6)", false).due("isLiveIn(5,7)", true);
        in.dueBounds("isLiveIn(6,0)").dueBounds("isLiveIn(-1,-1)").dueArgument("isLiveIn(0,8)");
        in.dueArgument("isLiveIn(0,-1)");
        Calls out = graph("22").due("isLiveOut(0,0)", true).due("isLiveOut(3,0)", false).due("isLiveOut(2,4)", false);
        out.due("isLiveOut(4,6)", true).due("isLiveOut(5,7)", false).due("isLiveOut(5,0)", true);
        out.dueBounds("isLiveOut(6,0)").dueBounds("isLiveOut(-1,8)").dueArgument("isLiveOut(0,8)");
        out.dueArgument("isLiveOut(0,-1)");
        fresh("22").load("block;branch a 1 1;block;stop;").due("isLiveIn(0,0)", true).due("isLiveOut(0,0)", false);
        Calls before = graph("23").due("liveBefore(0)", 1).due("liveBefore(2)", 3).due("liveBefore(6)", 3);
        before.due("liveBefore(7)", 2).due("liveBefore(8)", 1).due("liveBefore(11)", 3);
        before.dueBounds("liveBefore(12)").dueBounds("liveBefore(-1)");
        Calls dead = graph("24").due("isDead(0)", false).due("isDead(2)", true).due("isDead(3)", true);
        dead.due("isDead(4)", false).due("isDead(5)", true).due("isDead(6)", false).due("isDead(7)", false);
        dead.due("isDead(10)", true).dueBounds("isDead(12)").dueBounds("isDead(-1)");
        fresh("24").load("block;calc a a plus a;goto 0;").due("isDead(0)", false);
    }

    private static void promise25To27() {
        graph("25").due("deadDefinitions()", 4);
        fresh("25").load("block;stop;").due("deadDefinitions()", 0).due("pressure()", 0);
        graph("26").due("pressure()", 3);
        fresh("26").due("pressure()", 4);
        fresh("26").load("block;goto 1;block;branch a 0 1;").due("pressure()", 1);
        String all = "block;calc a a plus b;calc a c plus d;calc a e plus f;calc a g plus h;branch a 0 0;";
        fresh("26").load(all).due("pressure()", 8);
        fresh("26").load("block;calc a a plus b;stop;").due("pressure()", 2);
        // The largest set stands before an exit, and in an unreachable block.
        fresh("26").load("block;stop;block;set b 1;set a 1;branch a 2 2;block;show b;show c;stop;").due("pressure()", 3);
        Calls calls = graph("27").due("interfere(0,1)", true).due("interfere(1,0)", true).due("interfere(0,0)", false);
        calls.due("interfere(4,0)", false).due("interfere(4,1)", true).due("interfere(5,6)", true);
        calls.due("interfere(5,7)", false).due("interfere(3,0)", true).due("interfere(0,6)", true);
        calls.dueArgument("interfere(8,0)").dueArgument("interfere(0,8)").dueArgument("interfere(-1,0)");
        calls.dueArgument("interfere(0,-1)").dueArgument("interfere(8,8)");
        // A move does not make them interfere, another definition does.
        fresh("27").load("block;move a b;show b;show a;stop;").due("interfere(0,1)", false);
        fresh("27").load("block;move a b;set b 1;show b;show a;stop;").due("interfere(0,1)", true);
        fresh("27").load("block;move a b;move a b;show b;show a;set a 1;show b;stop;").due("interfere(0,1)", true);
        fresh("27").load("block;stop;block;set a 1;show b;stop;").due("interfere(1,0)", true);
    }

    // ---- available expressions

    private static void promise28To31() {
        graph("28").due("expressionCount()", 3);
        fresh("28").load("block;calc a b plus c;calc a c plus b;calc a b minus c;calc d b plus c;stop;")
            .due("expressionCount()", 3);
        fresh("28").load("block;stop;block;calc a a plus a;stop;").due("expressionCount()", 1);
        fresh("28").load("block;show a;stop;").due("expressionCount()", 0);
        Calls calls = graph("29").due("isRedundant(2)", false).due("isRedundant(3)", false).due("isRedundant(6)", true);
        calls.due("isRedundant(10)", false).due("isRedundant(0)", false).due("isRedundant(7)", false);
        calls.dueBounds("isRedundant(12)").dueBounds("isRedundant(-1)");
        fresh("29").load("block;calc a b plus c;calc d b plus c;stop;").due("isRedundant(1)", true);
        fresh("29").load("block;calc a b plus c;calc d c plus b;stop;").due("isRedundant(1)", false);
        fresh("29").load("block;calc b b plus c;calc d b plus c;stop;").due("isRedundant(1)", false);
        fresh("29").load("block;calc a b plus c;move c c;calc d b plus c;stop;").due("isRedundant(2)", false);
        fresh("29").load("block;calc a b plus c;goto 0;").due("isRedundant(0)", false);
        fresh("29").load("block;goto 0;block;calc a b plus c;calc a b plus c;stop;").due("isRedundant(1)", false);
        graph("30").due("redundantCount()", 1);
        fresh("30").load("block;calc a b plus c;calc a b plus c;calc a b plus c;stop;").due("redundantCount()", 2);
        Calls at = graph("31").due("availableAt(0)", 0).due("availableAt(1)", 0).due("availableAt(2)", 1);
        at.due("availableAt(3)", 1).due("availableAt(4)", 0).due("availableAt(5)", 0);
        at.dueBounds("availableAt(6)").dueBounds("availableAt(-1)");
        fresh("31").load("block;calc a b plus c;goto 0;").due("availableAt(0)", 0);
        // What comes from an unreachable block does not count; what comes round the loop does.
        fresh("31").load("block;calc a b plus c;calc a b times c;goto 1;block;goto 1;block;set b 1;goto 1;")
            .due("availableAt(1)", 2).due("availableAt(2)", 0);
    }

    // ---- dominators and loops

    private static final String LOOPS =
        "block;goto 1;block;branch a 2 5;block;branch a 3 4;block;branch a 2 3;block;branch a 1 1;block;stop;"
        + "block;goto 2;";

    private static void promise32To34() {
        Calls calls = fresh("32").load(LOOPS).due("dominates(0,5)", true).due("dominates(1,4)", true);
        calls.due("dominates(3,4)", false).due("dominates(4,4)", true).due("dominates(2,1)", false);
        calls.due("dominates(6,2)", false).due("dominates(0,6)", false).due("dominates(6,6)", false);
        calls.dueBounds("dominates(7,0)").dueBounds("dominates(0,7)").dueBounds("dominates(-1,0)");
        calls.dueBounds("dominates(0,-1)");
        Calls next = fresh("33").load(LOOPS).due("immediateDominator(0)", -1).due("immediateDominator(1)", 0);
        next.due("immediateDominator(4)", 2).due("immediateDominator(3)", 2).due("immediateDominator(5)", 1);
        next.due("immediateDominator(6)", -1).dueBounds("immediateDominator(7)").dueBounds("immediateDominator(-1)");
        fresh("33").load("block;branch a 1 2;block;goto 3;block;goto 3;block;goto 0;").due("immediateDominator(3)", 0);
        // The numbers of the blocks run against the edges.
        fresh("33").load("block;goto 5;block;stop;block;goto 1;block;goto 2;block;branch a 3 2;block;goto 4;")
            .due("immediateDominator(1)", 2).due("immediateDominator(2)", 4).due("immediateDominator(3)", 4)
            .due("immediateDominator(4)", 5).due("dominates(5,1)", true).due("dominates(3,1)", false);
        Calls common = fresh("34").load(LOOPS).due("commonDominator(3,4)", 2).due("commonDominator(4,5)", 1);
        common.due("commonDominator(3,3)", 3).due("commonDominator(2,3)", 2).due("commonDominator(0,5)", 0);
        common.due("commonDominator(6,1)", -1).due("commonDominator(1,6)", -1).due("commonDominator(6,6)", -1);
        common.dueBounds("commonDominator(7,0)").dueBounds("commonDominator(0,7)").dueBounds("commonDominator(-1,0)");
        common.dueBounds("commonDominator(0,-1)");
    }

    private static void promise35To37() {
        fresh("35").load(LOOPS).due("backEdges()", 3);
        fresh("35").load("block;branch a 0 0;").due("backEdges()", 1).due("loopSize(0)", 1).due("loopDepth(0)", 1);
        fresh("35").load("block;stop;block;goto 1;").due("backEdges()", 0).due("loopSize(1)", 0).due("loopDepth(1)", 0);
        // Two blocks that lead to each other, but no head dominates the other one.
        fresh("35").load("block;branch a 1 2;block;goto 2;block;goto 1;").due("backEdges()", 0).due("loopSize(1)", 0);
        Calls size = fresh("36").load(LOOPS).due("loopSize(1)", 4).due("loopSize(2)", 2).due("loopSize(3)", 1);
        size.due("loopSize(0)", 0).due("loopSize(6)", 0).dueBounds("loopSize(7)").dueBounds("loopSize(-1)");
        fresh("36").load("block;branch a 1 2;block;goto 0;block;goto 0;").due("backEdges()", 2).due("loopSize(0)", 3);
        fresh("36").load("block;goto 1;block;goto 0;block;goto 1;").due("loopSize(0)", 2).due("loopDepth(2)", 0);
        Calls depth = fresh("37").load(LOOPS).due("loopDepth(0)", 0).due("loopDepth(1)", 1).due("loopDepth(2)", 2);
        depth.due("loopDepth(3)", 3).due("loopDepth(4)", 1).due("loopDepth(5)", 0).due("loopDepth(6)", 0);
        depth.dueBounds("loopDepth(7)").dueBounds("loopDepth(-1)");
    }

    // ---- constants and runs

    private static void promise38To40() {
        Calls calls = graph("38").due("constantAt(0,0)", 0).due("constantAt(1,0)", -1).due("constantAt(1,1)", 3);
        calls.due("constantAt(1,2)", 5).due("constantAt(3,6)", 0).due("constantAt(4,1)", -1).due("constantAt(1,4)", -1);
        calls.dueBounds("constantAt(6,0)").dueBounds("constantAt(-1,8)").dueArgument("constantAt(0,8)");
        calls.dueArgument("constantAt(0,-1)");
        // Round a loop the most constants count; the entry counts the initial 0 as well.
        fresh("38").load("block;set a 4;goto 1;block;move b a;move a b;goto 1;").due("constantAt(1,0)", 4)
            .due("constantAt(1,1)", -1).due("constantOf(1)", 4).due("constantOf(2)", 4);
        fresh("38").load("block;set a 4;goto 0;").due("constantAt(0,0)", -1).due("constantAt(0,1)", 0);
        fresh("38").load("block;set a 0;goto 0;").due("constantAt(0,0)", 0);
        fresh("38").load("block;branch a 1 2;block;set b 1;goto 2;block;show b;stop;").due("constantAt(2,1)", -1);
        Calls of = graph("39").due("constantOf(0)", 2).due("constantOf(2)", 5).due("constantOf(3)", -1);
        of.due("constantOf(4)", -1).due("constantOf(7)", -1).due("constantOf(9)", -1);
        of.dueBounds("constantOf(12)").dueBounds("constantOf(-1)");
        fresh("39").load("block;set a 999;set b 1;calc c a plus b;calc d c minus b;calc e a times a;calc f d minus g;stop;")
            .due("constantOf(2)", 0).due("constantOf(3)", 999).due("constantOf(4)", 1).due("constantOf(5)", 999);
        // No rule for a product with 0.
        fresh("39").load("block;branch a 1 2;block;set b 1;goto 2;block;calc c d times b;stop;").due("constantOf(1)", -1);
        graph("40").due("decidedBranches()", 0);
        fresh("40").load("block;branch a 1 1;block;set b 1;branch b 2 1;block;stop;block;branch a 0 0;")
            .due("decidedBranches()", 2);
        fresh("40").load("block;set a 1;branch a 0 0;").due("decidedBranches()", 1);
        fresh("40").load("block;calc a a plus b;set b 1;branch a 0 0;").due("decidedBranches()", 0);
    }

    private static void promise41To43() {
        Calls calls = fresh("41").due("runSteps(1000)", 34).due("runSteps(34)", 34).due("runSteps(33)", 33);
        calls.due("runSteps(1)", 1).dueArgument("runSteps(0)").dueArgument("runSteps(1001)").dueArgument("runSteps(-1)");
        fresh("41").load("block;goto 0;").due("runSteps(1000)", 1000).due("runEnds(1000)", false);
        fresh("41").load("block;stop;").due("runSteps(1000)", 1).due("runEnds(1)", true);
        Calls ends = fresh("42").due("runEnds(34)", true).due("runEnds(33)", false).due("runEnds(1000)", true);
        ends.due("runEnds(1)", false).dueArgument("runEnds(0)").dueArgument("runEnds(1001)");
        Calls value = fresh("43").due("valueAfter(0,0)", 0).due("valueAfter(1,0)", 5).due("valueAfter(5,2)", 6);
        value.due("valueAfter(4,2)", 0).due("valueAfter(1000,0)", 0).due("valueAfter(1000,5)", 7);
        value.due("valueAfter(33,5)", 7).due("valueAfter(32,5)", 0);
        value.dueArgument("valueAfter(-1,0)").dueArgument("valueAfter(1001,0)").dueArgument("valueAfter(0,8)");
        value.dueArgument("valueAfter(0,-1)");
        fresh("43").load("block;set a 1;set b 999;calc c a plus b;calc d c minus a;calc e b times b;stop;")
            .due("valueAfter(6,2)", 0).due("valueAfter(6,3)", 999).due("valueAfter(6,4)", 1);
        fresh("43").load("block;branch a 1 2;block;set b 1;stop;block;set b 2;stop;").due("valueAfter(9,1)", 2);
        fresh("43").load("block;set a 7;branch a 1 2;block;set b 1;stop;block;set b 2;stop;").due("valueAfter(9,1)", 1);
    }

    private static void promise44To46() {
        Calls shown = fresh("44").due("lastShown(0)", -1).due("lastShown(31)", -1).due("lastShown(32)", 1);
        shown.due("lastShown(1000)", 1).dueArgument("lastShown(-1)").dueArgument("lastShown(1001)");
        fresh("44").load("block;show a;set a 3;show a;stop;").due("lastShown(1)", 0).due("lastShown(2)", 0)
            .due("lastShown(3)", 3);
        Calls visits = fresh("45").due("visits(0,0)", 1).due("visits(1,3)", 0).due("visits(1,4)", 1);
        visits.due("visits(1,1000)", 6).due("visits(2,1000)", 5).due("visits(3,1000)", 1).due("visits(0,1000)", 1);
        visits.dueBounds("visits(4,0)").dueBounds("visits(-1,2000)").dueArgument("visits(0,-1)");
        visits.dueArgument("visits(0,1001)");
        fresh("45").load("block;branch a 1 0;block;stop;").due("visits(0,1000)", 1001).due("visits(1,1000)", 0);
        fresh("46").due("auditDifference()", 0);
        graph("46").due("auditDifference()", 0);
        fresh("46").load("block;calc a a plus b;set b 1;goto 0;").due("auditDifference()", 0);
        fresh("46").load("block;stop;").due("auditDifference()", 0);
    }

    private static void promise47And48() {
        graph("47").due("deadShare()", 4.0f / 9.0f);
        fresh("47").due("deadShare()", 2.0f / 7.0f);
        fresh("47").load("block;show a;stop;").due("deadShare()", 0.0f).due("meanLive()", 1.0);
        fresh("47").load("block;set a 1;stop;").due("deadShare()", 1.0f).due("meanLive()", 0.0);
        fresh("47").load("block;stop;").due("deadShare()", 0.0f).due("meanLive()", 0.0);
        graph("48").due("meanLive()", 29.0 / 12.0);
        fresh("48").due("meanLive()", 15.0 / 8.0);
    }

    // ---- actions

    private static void promise49() {
        Calls calls = fresh("49").due("insertSet(1,1,4,999)", 4).dueBlock(1, "calc c a plus b;set e 999;branch a 2 3;");
        calls.due("insertSet(0,0,0,0)", 0).due("insertSet(3,2,7,10)", 10).due("blockOf(10)", 3);
        calls.dueBlock(0, "set a 0;set a 5;set b 1;set d 7;goto 1;").dueBlock(3, "show c;move f d;set h 10;stop;");
        calls.dueBounds("insertSet(4,0,0,0)").dueBounds("insertSet(-1,9,9,9)").dueArgument("insertSet(0,-1,0,0)");
        calls.dueArgument("insertSet(0,5,0,0)").dueArgument("insertSet(0,0,8,0)").dueArgument("insertSet(0,0,-1,0)");
        calls.dueArgument("insertSet(0,0,0,1000)").dueArgument("insertSet(0,0,0,-1)");
        calls.dueArgument("insertSet(0,2147483647,0,0)").due("instructionCount()", 11).due("undo()", 2);
        fresh("49").load(stops(2)).due("insertSet(1,0,1,1)", 0).due("insertSet(0,0,0,1)", 0).due("blockOf(1)", 1);
        fresh("49").load(shows(39)).due("insertSet(0,39,0,0)", 39).dueState("insertSet(0,0,0,0)")
            .dueArgument("insertSet(0,41,0,0)").dueArgument("insertSet(0,0,8,0)").dueArgument("insertSet(0,0,0,1000)")
            .dueBounds("insertSet(1,0,0,0)").due("instructionCount()", 40).due("undo()", 0).dueState("undo()");
    }

    private static void promise50() {
        Calls calls = fresh("50").due("insertCalc(2,1,7,6,2,5)", 5).dueBlock(2,
            "calc a a minus b;calc h g times f;calc e a plus b;goto 1;");
        calls.due("insertCalc(2,3,0,1,1,2)", 7).due("insertCalc(2,0,0,1,0,2)", 4).dueBlock(2,
            "calc a b plus c;calc a a minus b;calc h g times f;calc e a plus b;calc a b minus c;goto 1;");
        calls.dueBounds("insertCalc(4,0,0,0,0,0)").dueBounds("insertCalc(-1,9,9,9,9,9)");
        calls.dueArgument("insertCalc(2,6,0,0,0,0)").dueArgument("insertCalc(2,-1,0,0,0,0)");
        calls.dueArgument("insertCalc(0,0,8,0,0,0)").dueArgument("insertCalc(0,0,-1,0,0,0)");
        calls.dueArgument("insertCalc(0,0,0,8,0,0)").dueArgument("insertCalc(0,0,0,-1,0,0)");
        calls.dueArgument("insertCalc(0,0,0,0,3,0)").dueArgument("insertCalc(0,0,0,0,-1,0)");
        calls.dueArgument("insertCalc(0,0,0,0,0,8)").dueArgument("insertCalc(0,0,0,0,0,-1)");
        calls.due("instructionCount()", 11).due("undo()", 2);
        fresh("50").load(shows(40)).dueState("insertCalc(0,0,0,0,0,0)").dueArgument("insertCalc(0,0,0,0,3,0)")
            .dueBounds("insertCalc(1,0,0,0,0,0)").dueState("undo()");
    }

    private static void promise51() {
        Calls calls = fresh("51").due("removeInstruction(3)", 7).dueBlock(1, "branch a 2 3;").due("blockOf(3)", 2);
        calls.due("removeInstruction(6)", 6).dueBlock(3, "show c;stop;").due("removeInstruction(0)", 5);
        calls.dueBlock(0, "set b 1;set d 7;goto 1;").dueBounds("removeInstruction(5)").dueBounds("removeInstruction(-1)");
        calls.due("undo()", 2);
        fresh("51").load("block;stop;").dueBounds("removeInstruction(0)").dueState("undo()");
        fresh("51").load(shows(40)).due("removeInstruction(39)", 39).due("insertSet(0,39,1,2)", 39);
    }

    private static void promise52And53() {
        Calls calls = fresh("52").due("setGoto(1,3)", 3).dueBlock(1, "calc c a plus b;goto 3;").due("setGoto(0,0)", 1);
        calls.dueNoSuch("successor(1,1)").due("successor(0,0)", 0);
        calls.dueBounds("setGoto(4,0)").dueBounds("setGoto(0,4)").dueBounds("setGoto(-1,0)").dueBounds("setGoto(0,-1)");
        calls.due("undo()", 1).due("isReachable(2)", false).due("undo()", 0).due("isReachable(2)", true);
        // The variable of the branch that is gone is used no more.
        fresh("52").load("block;branch a 1 1;block;stop;").due("setGoto(0,1)", 2).due("isLiveIn(0,0)", false)
            .due("decidedBranches()", 0);
        Calls branch = fresh("53").due("setBranch(3,7,0,3)", 4).dueBlock(3, "show c;move f d;branch h 0 3;");
        branch.due("setBranch(0,1,3,3)", 2).due("successor(0,0)", 3).due("successor(0,1)", 3);
        branch.dueBounds("setBranch(4,0,0,0)").dueBounds("setBranch(0,0,4,0)").dueBounds("setBranch(0,0,0,4)");
        branch.dueBounds("setBranch(-1,8,0,0)").dueBounds("setBranch(0,8,-1,0)").dueBounds("setBranch(0,8,0,-1)");
        branch.dueArgument("setBranch(0,8,0,0)").dueArgument("setBranch(0,-1,0,0)").due("undo()", 1);
    }

    private static void promise54And55() {
        Calls calls = graph("54").due("removeDead()", 4).due("deadDefinitions()", 0).dueBlock(2, "calc a a minus b;goto 1;");
        calls.dueBlock(4, "set g 1;goto 3;").due("removeDead()", 0).due("undo()", 1).due("undo()", 0);
        calls.due("instructionCount()", 12);
        fresh("54").load("block;set a 1;move b a;move c b;move d c;show e;stop;").due("deadDefinitions()", 1)
            .due("removeDead()", 4).dueBlock(0, "show e;stop;").due("undo()", 0).due("instructionCount()", 5);
        fresh("54").load("block;" + repeat("calc a a plus a;", 40) + "stop;").due("removeDead()", 40)
            .due("instructionCount()", 0);
        Calls fold = graph("55").due("foldConstants()", 1).dueBlock(0, "set a 2;set b 3;set c 5;goto 1;");
        fold.due("foldConstants()", 0).due("undo()", 1).due("undo()", 0).due("kindOf(2)", 2);
        fresh("55").load("block;move a b;calc c a minus d;set d 3;calc e c minus d;stop;block;move a b;stop;")
            .due("foldConstants()", 3).dueBlock(0, "set a 0;set c 0;set d 3;set e 997;stop;").dueBlock(1, "move a b;stop;");
        fresh("55").load("block;set a 1;show a;stop;").due("foldConstants()", 0).due("undo()", 0);
    }

    // ---- output, undo and snapshots

    private static void promise56And57() {
        Calls calls = fresh("56").load("block;set a 0;set b 10;set c 100;set d 999;move e f;show g;goto 11;"
            + stops(9) + "block;calc a b plus c;calc d e minus f;calc g h times a;branch h 10 9;" + stops(1));
        calls.dueBlock(0, "set a 0;set b 10;set c 100;set d 999;move e f;show g;goto 11;");
        calls.dueBlock(10, "calc a b plus c;calc d e minus f;calc g h times a;branch h 10 9;").dueBlock(11, "stop;");
        calls.due("writeBlock(11)", 5).due("outputByte(0)", (int) 's').due("outputByte(4)", 59).due("outputByte(5)", -1);
        calls.due("outputByte(-1)", -1).due("outputByte(2147483647)", -1).due("outputByte(-2147483648)", -1);
        calls.dueBounds("writeBlock(12)").dueBounds("writeBlock(-1)").due("outputByte(4)", 59);
        calls.due("setGoto(11,0)", 2).load("block;stop;").due("outputByte(0)", (int) 's').due("outputByte(5)", -1);
        Calls full = fresh("56").load("block;stop;");
        for (int i = 0; i < 40; i++) {
            full.due("insertCalc(0,0,0,0,2,0)", 0);
        }
        full.due("writeBlock(0)", 40 * 17 + 5).due("outputByte(684)", 59).due("outputByte(685)", -1);
    }

    private static void promise58() {
        Calls calls = fresh("58").dueState("undo()");
        for (int i = 1; i <= 8; i++) {
            calls.due("insertSet(0,0,0," + i + ")", 0);
        }
        for (int left = 5; left >= 0; left--) {
            calls.due("undo()", left);
        }
        calls.dueState("undo()").dueBlock(0, "set a 2;set a 1;set a 5;set b 1;set d 7;goto 1;");
        // The most recent one first, also after new actions.
        Calls mixed = fresh("58").due("setGoto(0,3)", 2).due("removeInstruction(0)", 7).due("undo()", 1);
        mixed.due("insertSet(0,0,7,7)", 0).due("undo()", 1).due("instructionCount()", 8).due("successor(0,0)", 3);
        mixed.due("undo()", 0).due("successor(0,0)", 1).dueState("undo()");
        // What undo does not touch.
        Calls kept = fresh("58").refuse("block;goto 1;", 4, 11).due("removeDead()", 3).due("saveSnapshot(0)", null);
        kept.due("writeBlock(3)", 12).text("abcd").due("undo()", 0).due("errorCode()", 4).due("errorPosition()", 11);
        kept.due("outputByte(11)", 59).due("truncateText(4)", 4).due("restoreSnapshot(0)", null);
        kept.due("instructionCount()", 5);
        // Even what changed nothing can be undone; what threw cannot.
        fresh("58").due("foldConstants()", 1).due("foldConstants()", 0).dueBounds("setGoto(9,9)").due("undo()", 1)
            .due("undo()", 0).dueState("undo()");
    }

    private static void promise59() {
        Calls calls = fresh("59").dueArgument("saveSnapshot(2)").dueArgument("saveSnapshot(-1)");
        calls.dueArgument("restoreSnapshot(2)").dueArgument("restoreSnapshot(-1)").dueState("restoreSnapshot(1)");
        calls.due("saveSnapshot(1)", null).dueState("undo()").dueState("restoreSnapshot(0)");
        calls.due("removeDead()", 3).due("saveSnapshot(1)", null).due("undo()", 0).due("instructionCount()", 8);
        calls.due("restoreSnapshot(1)", null).due("instructionCount()", 5);
    }

    private static void promise60() {
        Calls calls = fresh("60").due("removeDead()", 3).due("saveSnapshot(1)", null).due("undo()", 0);
        calls.due("saveSnapshot(0)", null).due("setGoto(0,3)", 2).due("restoreSnapshot(1)", null);
        calls.due("instructionCount()", 5).due("successor(0,0)", 1).dueState("undo()");
        // The snapshot stays saved, whatever happens to the program after it.
        calls.due("removeInstruction(0)", 4).due("restoreSnapshot(1)", null).due("instructionCount()", 5);
        calls.due("restoreSnapshot(0)", null).due("instructionCount()", 8).due("deadDefinitions()", 2);
        // A later one with the same number takes its place; saving is no action.
        calls.due("removeInstruction(7)", 7).due("saveSnapshot(0)", null).due("undo()", 0);
        calls.due("restoreSnapshot(0)", null).due("instructionCount()", 7).dueState("undo()");
        // What throws changes nothing.
        fresh("60").due("removeDead()", 3).dueState("restoreSnapshot(0)").dueArgument("restoreSnapshot(2)")
            .due("instructionCount()", 5).due("undo()", 0);
    }

    /** Every analysis follows every kind of change. */
    private static void analysesFollowChanges() {
        List<String> asked = List.of("isReachable(3)", "reachingDefinitions(3,0)", "isLiveIn(3,2)", "availableAt(3)",
            "constantAt(3,3)");
        Object[] first = {true, 2, true, 1, 7};
        Object[] cut = {false, 0, true, 0, -1};
        Calls calls = fresh("changes");
        dueAll(calls, asked, first);
        calls.due("saveSnapshot(0)", null).due("setGoto(0,0)", 1);
        dueAll(calls, asked, new Object[] {false, 1, true, 0, -1});
        calls.due("undo()", 0);
        dueAll(calls, asked, first);
        calls.load("block;stop;block;stop;block;stop;block;show c;stop;");
        dueAll(calls, asked, cut);
        calls.due("restoreSnapshot(0)", null);
        dueAll(calls, asked, first);
        calls.due("deadDefinitions()", 2).due("insertSet(3,0,2,5)", 6).due("deadDefinitions()", 3);
        calls.due("expressionCount()", 2).due("insertCalc(0,0,0,1,2,2)", 0).due("expressionCount()", 3);
        calls.due("deadDefinitions()", 4).due("removeInstruction(7)", 9).due("deadDefinitions()", 3);
        calls.due("removeDead()", 4).due("deadDefinitions()", 0).due("expressionCount()", 2);
        calls.due("undo()", 3).due("expressionCount()", 3).due("deadDefinitions()", 3);
        fresh("changes").load("block;set a 1;calc b a plus a;show b;stop;").due("expressionCount()", 1)
            .due("usesOf(0)", 1).due("foldConstants()", 1).due("expressionCount()", 0).due("usesOf(0)", 0)
            .due("undo()", 0).due("expressionCount()", 1).due("usesOf(0)", 1);
        fresh("changes").due("immediateDominator(3)", 1).due("setBranch(0,0,1,3)", 4).due("immediateDominator(3)", 0);
    }

    private static final String[] PROGRAMS = {"block;stop;",
        "block;set a 1;branch a 1 2;block;calc c a plus b;move d c;goto 0;block;calc c a plus b;show c;branch d 2 3;"
        + "block;show e;stop;",
        "block;goto 2;block;calc d a plus b;stop;block;calc c a plus b;goto 1;",
        "block;goto 1;block;calc e d times f;set a 2;set b 3;branch a 0 1;",
        "block;set b 1;set a 2;goto 1;block;calc h a minus b;show h;goto 1;",
        "block;goto 0;block;move b a;move a b;goto 2;block;branch b 1 3;block;calc a g plus h;stop;",
        "block;show a;show b;show c;branch d 1 1;block;branch e 0 1;",
        "block;set c 7;goto 1;block;calc a b plus c;calc d b plus c;branch d 1 2;block;show a;goto 2;"};

    /** Asks each analysis once, so that an answer kept too long would be seen. */
    private static Calls asked(Calls calls) {
        return calls.accepts("isReachable(0)").accepts("reachingDefinitions(0,0)").accepts("pressure()")
            .accepts("redundantCount()").accepts("constantAt(0,0)").accepts("auditDifference()");
    }

    /** No answer depends on the programs that the object held before. */
    private static void programsLeaveNothingBehind() {
        for (String last : PROGRAMS) {
            String want = new Calls("new").load(last).answers();
            for (String first : PROGRAMS) {
                Calls.check("[" + last + "] loaded after [" + first + "]", asked(fresh("old").load(first)).load(last).answers(),
                    want);
                Calls back = asked(fresh("old").load(last).due("saveSnapshot(0)", null).load(first));
                Calls.check("[" + last + "] restored after [" + first + "]",
                    back.due("restoreSnapshot(0)", null).answers(), want);
            }
            for (String change : new String[] {"insertSet(0,0,1,1)", "insertCalc(0,0,0,1,2,2)", "setGoto(0,0)",
                "setBranch(0,1,0,0)", "removeDead()", "foldConstants()"}) {
                Calls back = asked(asked(fresh("old").load(last)).accepts(change));
                Calls.check("[" + last + "] after the undone " + change, back.due("undo()", 0).answers(), want);
            }
        }
    }

    /** The analyses of a program that was changed are those of the same program loaded. */
    private static void changesLeaveNothingBehind() {
        for (String first : PROGRAMS) {
            for (String change : new String[] {"insertSet(0,0,1,1)", "insertCalc(0,0,0,1,2,2)", "setGoto(0,0)",
                "setBranch(0,1,0,0)", "removeDead()", "foldConstants()", "removeInstruction(0)"}) {
                Calls changed = asked(fresh("old").load(first));
                changed.answer(change);
                StringBuilder text = new StringBuilder();
                for (int b = 0; b < changed.lab.blockCount(); b++) {
                    text.append("block;").append(changed.written(b));
                }
                Calls.check("[" + first + "] after " + change, changed.answers(), fresh("new").load(text.toString()).answers());
            }
        }
    }

    private static void dueAll(Calls calls, List<String> asked, Object[] wanted) {
        for (int i = 0; i < wanted.length; i++) {
            calls.due(asked.get(i), wanted[i]);
        }
    }

    public static void main(String[] arguments) {
        promise1();
        promise2();
        promise3();
        promise4();
        promise5And6();
        promise7To11();
        promise12To15();
        promise16To18();
        promise19And20();
        promise21To24();
        promise25To27();
        promise28To31();
        promise32To34();
        promise35To37();
        promise38To40();
        promise41To43();
        promise44To46();
        promise47And48();
        promise49();
        promise50();
        promise51();
        promise52And53();
        promise54And55();
        promise56And57();
        promise58();
        promise59();
        promise60();
        analysesFollowChanges();
        programsLeaveNothingBehind();
        changesLeaveNothingBehind();
        Calls.finish("PromiseTests");
    }
}
