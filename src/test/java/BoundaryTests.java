import java.io.IOException;

/** Each sentence of the promises 1 to 40, at the edges that it names; the others are in EditTests. */
public final class BoundaryTests {
    private static final String BOUNDS = "IndexOutOfBoundsException";
    private static final String ARGUMENT = "IllegalArgumentException";
    private static final String NO_SUCH = "NoSuchElementException";
    private static final String BLOCK = "block: number of a block";
    private static final String INSTRUCTION = "instruction: number of an instruction";
    private static final String VARIABLE = "variable: 0 to 7";
    private static final String THROWS_BOUNDS = "Throws IndexOutOfBoundsException see above";
    private static final String THROWS_ARGUMENT = "Throws IllegalArgumentException see above";
    private static final String THROWS_NO_BLOCKS = "Throws IndexOutOfBoundsException if there are no such blocks";

    private static Sentences document;

    private static Calls says(int promise, String sentence) {
        return document.says(promise, sentence);
    }

    // ---- parameters, in calls with a % sign in their place

    static void block(Sentences sentences, int promise, String parameter, String thrown, String call) {
        sentences.says(promise, parameter).load(Texts.gotos(1)).accepts(call, 0).load(Texts.gotos(4)).accepts(call, 0, 1, 2, 3)
            .load(Texts.gotos(12)).accepts(call, 0, 10, 11);
        sentences.says(promise, thrown).load(Texts.gotos(12)).refuses(BOUNDS, call, -1, 12, 13, Texts.LEAST, Texts.MOST)
            .load(Texts.gotos(1)).refuses(BOUNDS, call, -1, 1, 2, 11).load(Texts.gotos(4)).refuses(BOUNDS, call, -1, 4);
    }

    private static void block(int promise, String call) {
        block(document, promise, BLOCK, THROWS_BOUNDS, call);
    }

    private static void instruction(int promise, String parameter, String call) {
        says(promise, parameter).load(Texts.shows(1)).accepts(call, 0).load(Texts.shows(40)).accepts(call, 0, 1, 38, 39);
        says(promise, THROWS_BOUNDS).load(Texts.shows(40)).refuses(BOUNDS, call, -1, 40, 41, Texts.LEAST, Texts.MOST)
            .load(Texts.stops(12)).refuses(BOUNDS, call, -1, 0, 39).load(Texts.shows(2)).refuses(BOUNDS, call, -1, 2)
            .due("removeInstruction(0)", 1).refuses(BOUNDS, call, 1).due("undo()", 0).accepts(call, 1);
    }

    private static void variable(int promise, String parameter, String thrown, String call) {
        says(promise, parameter).accepts(call, 0, 1, 2, 3, 4, 5, 6, 7);
        says(promise, thrown).refuses(ARGUMENT, call, -1, 8, 9, Texts.LEAST, Texts.MOST);
    }

    private static void blockAndVariable(int promise, String name) {
        block(promise, name + "(%,7)");
        variable(promise, VARIABLE, THROWS_ARGUMENT, name + "(3,%)");
    }

    // ---- texts

    private static void promise1() {
        String first = "block; set a 5; set b 1; set d 7; goto 1; block; calc c a plus b; branch a 2 3; block; calc a a minus "
            + "b; calc e a plus b; goto 1; block; show c; move f d; stop;";
        String sentence = "Creates the program of the text \"" + first
            + "\", with an empty text buffer, nothing to undo and no snapshots";
        says(1, sentence).dueProgram("set a 5;set b 1;set d 7;goto 1;", "calc c a plus b;branch a 2 3;",
            "calc a a minus b;calc e a plus b;goto 1;", "show c;move f d;stop;");
        says(1, sentence).refuses(ARGUMENT, "truncateText(%)", 1).due("truncateText(0)", 0).due("appendText(0)", 4);
        says(1, sentence).due("loadProgram()", -1).due("errorPosition()", 0);
        says(1, sentence).dueState("undo()").dueState("restoreSnapshot(0)").dueState("restoreSnapshot(1)");
        String loaded = new Calls("loaded").load(first).everything();
        Calls.check("the first program as loaded", says(1, sentence).everything(), loaded);
    }

    private static void promise2() {
        says(2, "Appends four bytes to the text buffer, the most significant byte first")
            .due("appendText(" + ('b' << 24 | 'l' << 16 | 'o' << 8 | 'c') + ")", 4)
            .due("appendText(" + ('k' << 24 | ';' << 16 | 's' << 8 | 't') + ")", 8)
            .due("appendText(" + ('o' << 24 | 'p' << 16 | ';' << 8 | '\n') + ")", 12).due("loadProgram()", 1);
        // Among three blanks, each byte in its turn is the wrong one.
        for (int place = 0; place < 4; place++) {
            int shift = 24 - 8 * place;
            int four = 0x20202020 & ~(255 << shift) | 128 << shift;
            says(2, "fourBytes: the bytes").due("appendText(" + four + ")", 4).due("loadProgram()", -1)
                .due("errorCode()", 1).due("errorPosition()", place);
        }
        says(2, "fourBytes: the bytes").accepts("appendText(%)", 0, -1, Texts.LEAST, Texts.MOST);
        says(2, "Returns the new length of the text buffer").due("appendText(0)", 4).due("appendText(-1)", 8)
            .due("truncateText(1)", 1).due("appendText(0)", 5).due("loadProgram()", -1).due("appendText(0)", 4);
        String full = "Throws IllegalStateException if the text buffer would exceed 700 bytes";
        says(2, full).text(" ".repeat(696)).due("appendText(0)", 700).dueState("appendText(0)")
            .due("truncateText(700)", 700);
        for (int length = 697; length <= 700; length++) {
            says(2, full).text(" ".repeat(length)).dueState("appendText(0)").dueArgument("truncateText(" + (length + 1) + ")")
                .due("loadProgram()", -1).due("errorPosition()", length);
        }
    }

    private static void promise3() {
        says(3, "Shortens the text buffer to its first bytes").text("block;stop;!!").due("truncateText(11)", 11)
            .due("loadProgram()", 1).text("block;s").due("truncateText(6)", 6)
            .due("appendText(" + ('s' << 24 | 't' << 16 | 'o' << 8 | 'p') + ")", 10)
            .due("appendText(" + (';' << 24 | ' ' << 16 | ' ' << 8 | ' ') + ")", 14).due("loadProgram()", 1);
        // What is cut off belongs to no token any more.
        says(3, "Shortens the text buffer to its first bytes").text("blocks").due("truncateText(5)", 5).due("loadProgram()", -1)
            .due("errorCode()", 1).due("errorPosition()", 5).text("block;goto 12;").due("truncateText(12)", 12)
            .due("loadProgram()", -1).due("errorCode()", 1).due("errorPosition()", 12);
        says(3, "length: the new length, 0 to the present length").due("truncateText(0)", 0).text("abcde")
            .due("truncateText(5)", 5).due("truncateText(4)", 4).due("truncateText(0)", 0).text(" ".repeat(700))
            .due("truncateText(700)", 700).due("truncateText(0)", 0);
        says(3, "Returns the new length").text("abcd").due("truncateText(3)", 3).due("truncateText(3)", 3)
            .due("truncateText(1)", 1).due("appendText(0)", 5);
        says(3, "Throws IllegalArgumentException if length is out of range").refuses(ARGUMENT, "truncateText(%)", -1, 1,
            Texts.LEAST, Texts.MOST).text("abcd").refuses(ARGUMENT, "truncateText(%)", -1, 5, 700, 701)
            .due("truncateText(2)", 2).refuses(ARGUMENT, "truncateText(%)", 3, 4).due("appendText(0)", 6)
            .text(" ".repeat(700)).refuses(ARGUMENT, "truncateText(%)", 701, -1).due("loadProgram()", -1)
            .due("errorPosition()", 700).refuses(ARGUMENT, "truncateText(%)", 1, 700);
    }

    private static void promise4() {
        says(4, "Parses the text buffer as a program").load("block;set h 999;branch h 0 0;")
            .dueProgram("set h 999;branch h 0 0;");
        String replaced = "If the text has no error, this program replaces the present one, and no action can be undone";
        says(4, replaced).due("removeDead()", 3).load("block;stop;").dueState("undo()").dueProgram("stop;");
        says(4, replaced).due("removeDead()", 3).load("block;show a;stop;").due("insertSet(0,0,0,0)", 0).due("undo()", 0)
            .dueState("undo()").dueProgram("show a;stop;");
        says(4, "Snapshots stay").due("saveSnapshot(0)", null).due("removeDead()", 3).due("saveSnapshot(1)", null)
            .load("block;stop;").refuse("block", 1, 5).due("restoreSnapshot(1)", null).due("instructionCount()", 5)
            .due("restoreSnapshot(0)", null).due("instructionCount()", 8);
        String empty = "The text buffer is empty after the call, with or without an error";
        says(4, empty).load("block;stop;").dueArgument("truncateText(1)").due("appendText(0)", 4).due("loadProgram()", -1)
            .dueArgument("truncateText(1)").due("appendText(0)", 4);
        says(4, empty).refuse("block;goto 1;", 4, 11).due("loadProgram()", -1).due("errorCode()", 1)
            .due("errorPosition()", 0);
        says(4, "Returns the number of blocks").text(Texts.stops(1)).due("loadProgram()", 1).text(Texts.stops(12))
            .due("loadProgram()", 12).text(Texts.stops(7)).due("loadProgram()", 7);
        String none = "NONE if the text has an error, and then the program does not change";
        for (String wrong : new String[] {"", "block;set a 1;stop", "block;set a 1000;", Texts.stops(13), Texts.shows(41),
            "block;set a 1;set b 2;goto 1;"}) {
            says(4, none).due("removeInstruction(0)", 7).text(wrong).due("loadProgram()", -1).due("blockCount()", 4)
                .due("instructionCount()", 7).dueBlock(0, "set b 1;set d 7;goto 1;").due("constantAt(1,1)", 1)
                .due("undo()", 0).dueProgram("set a 5;set b 1;set d 7;goto 1;", "calc c a plus b;branch a 2 3;",
                "calc a a minus b;calc e a plus b;goto 1;", "show c;move f d;stop;").dueState("undo()");
        }
    }

    private static void promise5And6() {
        says(5, "Returns the error code of the most recent call of loadProgram").refuse("block;goto 1;", 4, 11)
            .refuse("block;set a 1000;", 2, 12).refuse("", 1, 0).refuse(Texts.stops(13), 3, 132)
            .text("block;goto 1;").due("errorCode()", 3);
        says(5, "Returns the code").refuseAt("block^", 1).refuseAt("block;goto ^12;", 2)
            .refuseAt(Texts.stops(12) + "^block;", 3).refuseAt("block;goto ^1;", 4).due("removeDead()", 3).due("undo()", 0)
            .due("saveSnapshot(0)", null).due("restoreSnapshot(0)", null).due("errorCode()", 4);
        says(5, "0 if that text had no error, or if there was no such call").due("errorCode()", 0)
            .refuse("block;goto 1;", 4, 11).load("block;stop;").due("errorCode()", 0);
        says(6, "Returns the error position of the most recent call of loadProgram").refuse("block;goto 1;", 4, 11)
            .refuse("block;set a 1000;", 2, 12).refuse("block", 1, 5).text("blocks;").due("errorPosition()", 5);
        says(6, "Returns the position").refuseAt("^", 1).refuseAt("^stop", 1)
            .refuseAt("block;" + " ".repeat(694) + "^", 1).refuseAt("block;" + " ".repeat(693) + "^@", 1);
        says(6, "NONE if that text had no error, or if there was no such call").due("errorPosition()", -1)
            .refuse("", 1, 0).load("block;stop;").due("errorPosition()", -1);
    }

    // ---- the graph and the instructions

    private static void promise7To11() {
        says(7, "Returns the number of blocks").due("blockCount()", 4).load(Texts.stops(5)).due("blockCount()", 5);
        says(7, "Returns 1 to 12").load(Texts.stops(1)).due("blockCount()", 1).load(Texts.stops(12)).due("blockCount()", 12);
        says(8, "Returns the number of instructions").due("instructionCount()", 8).due("insertSet(0,0,0,0)", 0)
            .due("instructionCount()", 9).due("removeInstruction(0)", 8).due("instructionCount()", 8);
        says(8, "Returns 0 to 40").load(Texts.stops(12)).due("instructionCount()", 0).load(Texts.shows(40))
            .due("instructionCount()", 40).dueState("insertSet(0,0,0,0)").due("instructionCount()", 40);
        block(9, "instructionsIn(%)");
        says(9, "Returns the number of instructions of a block").due("instructionsIn(0)", 3).due("instructionsIn(1)", 1)
            .due("instructionsIn(2)", 2).due("instructionsIn(3)", 2);
        says(9, "Returns the number of instructions").load("block;goto 1;" + Texts.shows(40)).due("instructionsIn(0)", 0)
            .due("instructionsIn(1)", 40).due("removeInstruction(39)", 39).due("instructionsIn(1)", 39)
            .due("insertSet(0,0,0,0)", 0).due("instructionsIn(0)", 1).due("instructionsIn(1)", 39);
        instruction(10, INSTRUCTION, "blockOf(%)");
        String spread = "block;goto 1;block;show a;goto 2;block;goto 3;block;goto 4;block;show b;show c;stop;block;stop;";
        says(10, "Returns the block of an instruction").due("blockOf(2)", 0).due("blockOf(3)", 1).due("blockOf(4)", 2)
            .due("blockOf(5)", 2).due("blockOf(6)", 3).due("blockOf(7)", 3);
        says(10, "Returns the number of the block").load(spread).due("blockOf(0)", 1).due("blockOf(1)", 4).due("blockOf(2)", 4)
            .load(Texts.stops(11) + "block;show a;stop;").due("blockOf(0)", 11);
        instruction(11, INSTRUCTION, "kindOf(%)");
        says(11, "Returns the kind of an instruction").due("kindOf(0)", 0).due("kindOf(3)", 2).due("kindOf(6)", 3)
            .due("kindOf(7)", 1);
        says(11, "Returns SET, MOVE, CALC or SHOW").load("block;show h;calc h h times h;move h h;set h 999;stop;")
            .due("kindOf(0)", DataflowLab.SHOW).due("kindOf(1)", DataflowLab.CALC).due("kindOf(2)", DataflowLab.MOVE)
            .due("kindOf(3)", DataflowLab.SET);
    }

    private static void promise12() {
        block(12, "successor(%,0)");
        says(12, "Returns a successor of a block").due("successor(0,0)", 1).due("successor(2,0)", 1);
        says(12, "index: 0 for the block to which it goes, or branches if the value is not 0").due("successor(0,0)", 1)
            .due("successor(1,0)", 2);
        says(12, "1 for the block to which it branches if the value is 0").due("successor(1,1)", 3);
        says(12, "Returns the number of the successor").load("block;branch a 11 0;" + Texts.stops(11)).due("successor(0,0)", 11)
            .due("successor(0,1)", 0).load("block;branch a 0 0;").due("successor(0,0)", 0).due("successor(0,1)", 0);
        says(12, "Throws NoSuchElementException if the exit has no such successor")
            .refuses(NO_SUCH, "successor(3,%)", 0, 1, -1, 2, Texts.LEAST, Texts.MOST)
            .refuses(NO_SUCH, "successor(0,%)", 1, -1, 2, Texts.LEAST, Texts.MOST)
            .refuses(NO_SUCH, "successor(1,%)", -1, 2, 3, Texts.LEAST, Texts.MOST)
            .due("setGoto(1,3)", 3).dueNoSuch("successor(1,1)").due("setBranch(0,0,1,2)", 4).due("successor(0,1)", 2);
    }

    private static void promise13To15() {
        block(13, "predecessors(%)");
        String different = "Returns the number of different blocks that have a block as a successor";
        says(13, different).load("block;branch a 1 1;block;branch a 1 0;").due("predecessors(0)", 1).due("predecessors(1)", 2);
        says(13, different).load("block;goto 0;").due("predecessors(0)", 1).load("block;stop;").due("predecessors(0)", 0);
        says(13, "Returns the number of predecessors, reachable or not").load(Texts.gotos(12)).due("predecessors(0)", 12)
            .dueEach("predecessors(%)", 0, 1, 11);
        block(14, "isReachable(%)");
        says(14, "Tells whether a block is reachable").load("block;goto 1;block;stop;block;goto 1;").due("isReachable(1)", true)
            .due("isReachable(2)", false);
        says(14, "Returns true if it is reachable").load("block;stop;block;goto 1;").due("isReachable(0)", true)
            .due("isReachable(1)", false).load(Texts.chain(12)).due("isReachable(11)", true);
        block(15, "distanceTo(%)");
        says(15, "Returns the smallest number of exits on a path from the beginning of the entry to the beginning of a block")
            .load("block;branch a 1 2;block;goto 2;block;goto 3;block;goto 0;").due("distanceTo(0)", 0)
            .due("distanceTo(1)", 1).due("distanceTo(2)", 1).due("distanceTo(3)", 2);
        says(15, "Returns the number of exits").load(Texts.chain(12)).due("distanceTo(0)", 0).due("distanceTo(1)", 1)
            .due("distanceTo(11)", 11).due("setBranch(0,0,1,11)", 12).due("distanceTo(11)", 1).due("distanceTo(10)", 10);
        says(15, "NONE if the block is not reachable").load("block;stop;block;goto 2;block;goto 0;").due("distanceTo(1)", -1)
            .due("distanceTo(2)", -1).due("setGoto(0,2)", 2).due("distanceTo(2)", 1);
    }

    // ---- reaching definitions

    private static void promise16To18() {
        instruction(16, INSTRUCTION, "reaches(%,0)");
        block(16, "reaches(0,%)");
        says(16, "Tells whether a definition reaches the beginning of a block").due("reaches(0,1)", true)
            .due("reaches(0,0)", false).due("reaches(4,1)", true).due("reaches(4,2)", true).due("reaches(6,3)", false);
        says(16, "Returns true if the instruction is a definition that reaches the point before the first instruction or the exit of the block")
            .load("block;set a 1;show a;goto 1;block;goto 2;block;set a 2;stop;").due("reaches(0,1)", true)
            .due("reaches(0,2)", true).due("reaches(0,0)", false).dueEach("reaches(1,%)", false, 0, 1, 2)
            .due("reaches(2,2)", false);
        says(16, "Returns true if the instruction is a definition that reaches the point before the first instruction or the exit of the block")
            .load("block;" + "show a;".repeat(39) + "set a 1;goto 1;block;stop;").due("reaches(39,1)", true)
            .due("reaches(38,1)", false).due("reachingDefinitions(1,0)", 1);
        blockAndVariable(17, "reachingDefinitions");
        String eleven = "block;set a 1;goto 11;".repeat(11);
        says(17, "Returns the number of definitions of a variable that reach the beginning of a block")
            .load(eleven + "block;stop;").due("reachingDefinitions(11,0)", 11).due("reachingDefinitions(11,1)", 0)
            .due("reachingDefinitions(0,0)", 0).load(eleven + "block;set a 1;goto 11;").due("reachingDefinitions(11,0)", 12);
        says(17, "Returns the number of definitions, without the initial value").load("block;branch a 1 2;block;set b 1;goto 2;"
            + "block;stop;").due("reachingDefinitions(2,1)", 1).due("isInitialReaching(2,1)", true)
            .due("reachingDefinitions(2,0)", 0).due("isInitialReaching(2,0)", true);
        blockAndVariable(18, "isInitialReaching");
        says(18, "Tells whether the initial value of a variable reaches the beginning of a block")
            .load("block;set a 0;goto 1;block;stop;").due("isInitialReaching(0,0)", true).due("isInitialReaching(1,0)", false)
            .due("isInitialReaching(1,1)", true);
        says(18, "Returns true if it does").load("block;stop;block;stop;").dueEach("isInitialReaching(0,%)", true, 0, 7)
            .dueEach("isInitialReaching(1,%)", false, 0, 7).load("block;set h 1;goto 0;").due("isInitialReaching(0,7)", true);
    }

    private static void promise19() {
        instruction(19, INSTRUCTION, "usesOf(%)");
        String uses = "Returns the number of instructions and exits that use a definition";
        says(19, uses).load("block;set a 1;" + "show a;".repeat(39) + "branch a 0 0;").due("usesOf(0)", 40);
        says(19, uses).load("block;set a 1;stop;").due("usesOf(0)", 0);
        String reached = "Returns the number of instructions and branches that use the target and are reached, at the point "
            + "before them, by this definition";
        // An instruction that uses it twice counts once; what the definition itself uses comes before it.
        says(19, reached).load("block;set a 1;calc b a times a;stop;").due("usesOf(0)", 1);
        says(19, reached).load("block;calc a a plus a;stop;").due("usesOf(0)", 0).due("setGoto(0,0)", 1).due("usesOf(0)", 1);
        says(19, reached).load("block;set a 1;move a a;show a;branch a 1 1;block;show a;goto 1;").due("usesOf(0)", 1)
            .due("usesOf(1)", 3);
        says(19, reached).load("block;set a 1;goto 0;block;branch a 1 0;").due("usesOf(0)", 0).due("setGoto(0,1)", 2)
            .due("usesOf(0)", 1);
        says(19, reached).load("block;set h 1;goto 11;" + Texts.stops(10) + "block;branch h 0 0;").due("usesOf(0)", 1);
        says(19, "0 if the instruction is no definition").load("block;show a;show a;branch a 0 0;").due("usesOf(0)", 0)
            .due("usesOf(1)", 0);
    }

    private static void promise20() {
        String used = "instruction: number of an instruction that uses a variable";
        instruction(20, used, "onlyDefinition(%,0)");
        says(20, used).dueBounds("onlyDefinition(8,1)").dueNoSuch("onlyDefinition(0,0)").dueNoSuch("onlyDefinition(0,1)");
        says(20, "Returns the definition that alone determines the value that an instruction uses")
            .due("onlyDefinition(4,1)", 1).due("onlyDefinition(5,0)", 4).due("onlyDefinition(6,0)", 3)
            .due("onlyDefinition(7,0)", 2).due("onlyDefinition(3,0)", -1);
        says(20, "index: 0 for the source or the left operand, 1 for the right operand")
            .load("block;set a 1;set b 2;calc c a plus b;calc c b plus a;move d b;show a;stop;").due("onlyDefinition(2,0)", 0)
            .due("onlyDefinition(2,1)", 1).due("onlyDefinition(3,0)", 1).due("onlyDefinition(3,1)", 0)
            .due("onlyDefinition(4,0)", 1).due("onlyDefinition(5,0)", 0);
        says(20, "Returns the number of the only definition of this variable that reaches the point before the instruction")
            .load("block;" + "show b;".repeat(38) + "set a 1;show a;stop;").due("onlyDefinition(39,0)", 38)
            .load("block;set a 1;set a 2;show a;stop;").due("onlyDefinition(2,0)", 1);
        String none = "NONE if there are several, if there is none, or if the initial value reaches this point, too";
        says(20, none).load("block;branch b 1 2;block;set a 1;goto 3;block;set a 2;goto 3;block;show a;stop;")
            .due("reachingDefinitions(3,0)", 2).due("onlyDefinition(2,0)", -1);
        says(20, none).load("block;stop;block;show a;stop;").due("isInitialReaching(1,0)", false)
            .due("onlyDefinition(0,0)", -1);
        says(20, none).load("block;branch b 1 2;block;set a 1;goto 2;block;show a;stop;").due("reachingDefinitions(2,0)", 1)
            .due("onlyDefinition(1,0)", -1).due("setGoto(0,1)", 3).due("onlyDefinition(1,0)", 0);
        says(20, none).load("block;show a;stop;").due("onlyDefinition(0,0)", -1);
        // Alone in a loop that the initial value does not reach, it determines what it uses itself.
        says(20, none).load("block;stop;block;calc a a plus b;goto 1;").due("onlyDefinition(0,0)", 0)
            .due("onlyDefinition(0,1)", -1);
        says(20, "Throws NoSuchElementException if the instruction has no such operand")
            .load("block;set a 1;move b a;calc c a plus b;show a;stop;").refuses(NO_SUCH, "onlyDefinition(0,%)", 0, 1, -1, 2)
            .refuses(NO_SUCH, "onlyDefinition(1,%)", 1, -1, 2).refuses(NO_SUCH, "onlyDefinition(2,%)", -1, 2, Texts.LEAST,
            Texts.MOST).refuses(NO_SUCH, "onlyDefinition(3,%)", 1, -1, 2);
    }

    // ---- live variables

    private static void promise21To24() {
        blockAndVariable(21, "isLiveIn");
        says(21, "Tells whether a variable is live at the beginning of a block").due("isLiveIn(0,0)", false)
            .due("isLiveIn(1,0)", true).due("isLiveIn(3,2)", true).due("isLiveIn(3,3)", true).due("isLiveIn(3,0)", false);
        says(21, "Returns true if it is live").load(Texts.allLive()).dueEach("isLiveIn(0,%)", true, 0, 7)
            .dueEach("isLiveIn(7,%)", true, 0, 7).load("block;branch h 0 0;").due("isLiveIn(0,7)", true)
            .due("isLiveIn(0,0)", false).load(Texts.stops(11) + "block;branch h 11 11;").due("isLiveIn(11,7)", true)
            .due("isLiveOut(11,7)", true).due("isLiveIn(11,0)", false).due("isLiveIn(0,7)", false);
        blockAndVariable(22, "isLiveOut");
        says(22, "Tells whether a variable is live at the end of a block, after its exit")
            .load("block;branch a 1 1;block;stop;").due("isLiveIn(0,0)", true).due("isLiveOut(0,0)", false);
        says(22, "Returns true if it is live at the beginning of a successor")
            .load("block;branch c 1 2;block;show a;stop;block;show b;stop;").due("isLiveOut(0,0)", true)
            .due("isLiveOut(0,1)", true).due("isLiveOut(0,2)", false).due("isLiveOut(1,0)", false)
            .due("setGoto(0,1)", 2).due("isLiveOut(0,0)", true).due("isLiveOut(0,1)", false);
        instruction(23, INSTRUCTION, "liveBefore(%)");
        says(23, "Returns the number of variables that are live at the point before an instruction").due("liveBefore(0)", 0)
            .due("liveBefore(1)", 1).due("liveBefore(2)", 2).due("liveBefore(3)", 3).due("liveBefore(6)", 2)
            .due("liveBefore(7)", 1);
        says(23, "Returns the number of variables").load(Texts.allLive()).dueEach("liveBefore(%)", 8, 0, 7)
            .load("block;set a 1;stop;").due("liveBefore(0)", 0);
        instruction(24, INSTRUCTION, "isDead(%)");
        says(24, "Tells whether a definition is dead").dueEach("isDead(%)", true, 5, 7).dueEach("isDead(%)", false, 0, 1, 2, 3,
            4, 6);
        says(24, "Returns true if the instruction is a dead definition").load("block;set a 1;move a b;calc a a plus b;show b;stop;")
            .due("isDead(0)", true).due("isDead(1)", false).due("isDead(2)", true).due("isDead(3)", false);
    }

    private static void promise25To27() {
        says(25, "Returns the number of dead definitions").due("deadDefinitions()", 2).load("block;stop;block;set a 1;stop;")
            .due("deadDefinitions()", 1);
        says(25, "Returns the number of instructions").load(Texts.many(40, "set a 1;")).due("deadDefinitions()", 40)
            .load(Texts.shows(40)).due("deadDefinitions()", 0).load("block;stop;").due("deadDefinitions()", 0);
        String largest = "Returns the largest number of variables that are live at the same point, at the points before "
            + "instructions and before exits";
        says(26, largest).load("block;set a 1;set b 2;calc c a plus b;show c;stop;").due("pressure()", 2);
        // Only before an exit; only before an instruction; only in a block that is not reachable.
        says(26, largest).load("block;set a 1;branch a 0 0;").due("pressure()", 1);
        says(26, largest).load("block;show a;set a 1;stop;").due("pressure()", 1);
        says(26, largest).load("block;stop;block;calc a b plus c;stop;").due("pressure()", 2);
        says(26, "Returns 0 to 8").load("block;stop;").due("pressure()", 0).load(Texts.allLive()).due("pressure()", 8)
            .load(Texts.many(40, "set a 1;")).due("pressure()", 0).load("block;stop;block;branch a 0 0;").due("pressure()", 1)
            .load("block;stop;").due("pressure()", 0);
        String interfere = "Tells whether two variables interfere: at the point after a definition of one of them, the other "
            + "one is live";
        says(27, interfere).load("block;set a 1;show b;show a;stop;").due("interfere(0,1)", true).due("interfere(1,0)", true);
        // Both live at the same point, but without a definition of one of them.
        says(27, interfere).load("block;calc c a plus b;stop;").due("interfere(0,1)", false);
        says(27, interfere).load("block;show b;set a 1;show a;stop;").due("interfere(0,1)", false);
        // A dead definition counts, too; so does one at the end of a block.
        says(27, interfere).load("block;set a 1;show b;stop;").due("interfere(0,1)", true);
        says(27, interfere).load("block;set h 1;goto 1;block;show g;stop;").due("interfere(7,6)", true)
            .due("interfere(6,7)", true).due("interfere(7,5)", false);
        String move = "The target of a MOVE does not interfere with its source by this MOVE";
        says(27, move).load("block;move a b;calc c a plus b;stop;").due("interfere(0,1)", false).due("interfere(1,0)", false);
        says(27, move).load("block;move a b;calc c a plus b;show d;stop;").due("interfere(0,3)", true)
            .due("interfere(0,1)", false);
        says(27, move).load("block;move a b;set a 1;calc c a plus b;stop;").due("interfere(0,1)", true);
        says(27, move).load("block;move a b;calc c a plus b;set b 1;show b;show a;stop;").due("interfere(0,1)", true);
        says(27, move).load("block;calc a b plus b;show b;stop;").due("interfere(0,1)", true);
        String range = "Throws IllegalArgumentException if variable or other is out of range";
        variable(27, VARIABLE, range, "interfere(%,0)");
        variable(27, "other: 0 to 7", range, "interfere(7,%)");
        says(27, "Returns true if they interfere").load("block;set a 1;set h 2;calc b a plus h;stop;").due("interfere(0,7)", true)
            .due("interfere(7,0)", true).due("interfere(0,1)", false);
        says(27, "false if both are the same variable").load("block;set a 1;show a;set h 1;show h;stop;")
            .dueEach("interfere(%,%)", false, 0, 1, 2, 3, 4, 5, 6, 7).refuses(ARGUMENT, "interfere(%,%)", -1, 8);
    }

    // ---- available expressions

    private static void promise28To31() {
        String different = "Returns the number of different expressions of the CALC instructions";
        says(28, different).load("block;calc a b plus c;calc d b plus c;calc a c plus b;calc a b minus c;calc a b times c;stop;")
            .due("expressionCount()", 4);
        says(28, different).load("block;stop;block;calc a a plus a;calc a h times h;stop;").due("expressionCount()", 2);
        says(28, "Returns the number of expressions").load(Texts.shows(40)).due("expressionCount()", 0)
            .load(Texts.many(40, "calc a b plus c;")).due("expressionCount()", 1).load(Texts.allAvailable())
            .due("expressionCount()", 40);
        instruction(29, INSTRUCTION, "isRedundant(%)");
        says(29, "Tells whether a CALC is redundant").due("isRedundant(3)", false).due("isRedundant(5)", false)
            .due("insertCalc(2,0,7,0,0,1)", 4).due("isRedundant(4)", true).due("isRedundant(6)", false);
        says(29, "Returns true if the instruction is a redundant CALC")
            .load("block;calc c a plus b;show a;move d a;set e 0;calc c a plus b;stop;").due("isRedundant(4)", true)
            .dueEach("isRedundant(%)", false, 0, 1, 2, 3);
        says(30, "Returns the number of redundant CALC instructions").due("redundantCount()", 0)
            .due("insertCalc(1,1,7,0,0,1)", 4).due("redundantCount()", 1).due("insertCalc(1,0,7,0,0,1)", 3)
            .due("redundantCount()", 2);
        says(30, "Returns the number of instructions").load(Texts.many(40, "calc a b plus c;")).due("redundantCount()", 39)
            .load(Texts.many(40, "calc b b plus c;")).due("redundantCount()", 0).load("block;stop;")
            .due("redundantCount()", 0);
        block(31, "availableAt(%)");
        says(31, "Returns the number of expressions that are available at the beginning of a block").due("availableAt(0)", 0)
            .due("availableAt(1)", 0).due("availableAt(2)", 1).due("availableAt(3)", 1);
        says(31, "Returns the number of expressions").load(Texts.allAvailable()).due("availableAt(0)", 0)
            .due("availableAt(1)", 40).due("setGoto(0,0)", 1).due("availableAt(0)", 0);
        says(31, "0 if the block is not reachable").load("block;calc c a plus b;goto 1;block;stop;block;calc c a plus b;goto 3;"
            + "block;stop;").due("availableAt(1)", 1).due("availableAt(3)", 0).due("availableAt(2)", 0)
            .due("setGoto(0,0)", 1).due("availableAt(1)", 0);
    }

    // ---- dominators and loops

    private static void promise32To34() {
        block(document, 32, BLOCK, THROWS_NO_BLOCKS, "dominates(%,0)");
        block(document, 32, "other: number of a block", THROWS_NO_BLOCKS, "dominates(0,%)");
        says(32, "Tells whether a block dominates another one").due("dominates(0,3)", true).due("dominates(1,3)", true)
            .due("dominates(2,3)", false).due("dominates(3,1)", false);
        says(32, "Returns true if the first block dominates the second one").load(Texts.chain(12)).due("dominates(0,11)", true)
            .due("dominates(11,0)", false).due("dominates(10,11)", true).due("dominates(11,11)", true)
            .due("dominates(0,0)", true).due("setBranch(0,0,1,11)", 12).due("dominates(10,11)", false);
        says(32, "false if one of them is not reachable").load("block;goto 1;block;stop;block;goto 1;").due("dominates(2,1)", false)
            .due("dominates(0,2)", false).due("dominates(2,2)", false).due("dominates(0,1)", true);
        block(33, "immediateDominator(%)");
        says(33, "Returns the immediate dominator of a block").due("immediateDominator(1)", 0).due("immediateDominator(2)", 1)
            .due("immediateDominator(3)", 1);
        says(33, "Returns the number of the immediate dominator").load(Texts.chain(12)).due("immediateDominator(11)", 10)
            .due("setBranch(4,0,5,11)", 12).due("immediateDominator(11)", 4).due("immediateDominator(10)", 9);
        says(33, "NONE for the entry and for a block that is not reachable").load("block;goto 1;block;goto 0;block;goto 1;")
            .due("immediateDominator(0)", -1).due("immediateDominator(2)", -1).due("immediateDominator(1)", 0);
        block(document, 34, BLOCK, THROWS_NO_BLOCKS, "commonDominator(%,0)");
        block(document, 34, "other: number of a block", THROWS_NO_BLOCKS, "commonDominator(0,%)");
        says(34, "Returns the block that dominates two blocks and is dominated by all blocks that dominate both")
            .due("commonDominator(2,3)", 1).due("commonDominator(1,3)", 1).due("commonDominator(0,3)", 0)
            .load("block;branch a 1 2;block;goto 3;block;goto 3;block;branch a 4 5;block;stop;block;stop;")
            .due("commonDominator(1,2)", 0).due("commonDominator(4,5)", 3).due("commonDominator(1,5)", 0);
        says(34, "Returns the number of this block").load(Texts.chain(12)).due("commonDominator(11,11)", 11)
            .due("commonDominator(0,0)", 0).due("commonDominator(11,10)", 10).due("commonDominator(0,11)", 0);
        says(34, "NONE if one of the blocks is not reachable").load("block;goto 1;block;stop;block;goto 1;")
            .due("commonDominator(2,0)", -1).due("commonDominator(0,2)", -1).due("commonDominator(2,2)", -1)
            .due("commonDominator(1,0)", 0);
    }

    private static void promise35To37() {
        says(35, "Returns the number of back edges").due("backEdges()", 1).load(Texts.chain(12)).due("backEdges()", 0)
            .load(Texts.nest()).due("backEdges()", 6);
        String once = "A branch with two equal successors counts once";
        says(35, once).load("block;branch a 0 0;").due("backEdges()", 1);
        says(35, once).load("block;goto 1;block;branch a 0 0;").due("backEdges()", 1);
        says(35, "Returns the number of pairs of a block and a successor").load("block;branch a 0 1;block;branch a 1 0;")
            .due("backEdges()", 3).load("block;goto 1;block;branch a 0 1;").due("backEdges()", 2);
        block(36, "loopSize(%)");
        says(36, "Returns the number of blocks of a loop").due("loopSize(1)", 2).load(Texts.nest()).due("loopSize(2)", 8);
        says(36, "Returns the number of blocks of the body of the loop with this head").load("block;branch a 0 0;")
            .due("loopSize(0)", 1).load(Texts.nest()).due("loopSize(0)", 12);
        says(36, "0 if the block is no head").dueEach("loopSize(%)", 0, 0, 2, 3).load("block;stop;block;goto 1;")
            .due("loopSize(1)", 0);
        block(37, "loopDepth(%)");
        says(37, "Returns the loop depth of a block").dueEach("loopDepth(%)", 1, 1, 2).dueEach("loopDepth(%)", 0, 0, 3);
        says(37, "Returns the number of loops whose bodies contain the block").load(Texts.nest()).due("loopDepth(5)", 6)
            .due("loopDepth(0)", 1).due("loopDepth(10)", 2).load("block;stop;block;goto 1;").due("loopDepth(1)", 0);
    }

    // ---- constants

    private static void promise38To40() {
        blockAndVariable(38, "constantAt");
        says(38, "Returns the constant of a variable at the beginning of a block").due("constantAt(1,1)", 1)
            .due("constantAt(1,3)", 7).due("constantAt(0,3)", 0).due("constantAt(1,0)", -1);
        says(38, "Returns the constant").load("block;set a 999;set h 1;goto 1;block;stop;").due("constantAt(1,0)", 999)
            .due("constantAt(1,7)", 1).due("constantAt(1,1)", 0).due("constantAt(0,0)", 0);
        says(38, "NONE if the variable has no constant there, or if the block is not reachable")
            .load("block;branch a 1 2;block;set b 1;goto 2;block;stop;block;set a 1;goto 4;block;stop;")
            .due("constantAt(2,1)", -1).due("constantAt(2,0)", 0).dueEach("constantAt(3,%)", -1, 0, 7)
            .dueEach("constantAt(4,%)", -1, 0, 7);
        instruction(39, INSTRUCTION, "constantOf(%)");
        says(39, "Returns the constant that a definition gives its target").due("constantOf(0)", 5).due("constantOf(7)", 7)
            .due("constantOf(3)", -1);
        says(39, "Returns the constant of the target at the point after the instruction")
            .load("block;set a 999;move b a;calc a a minus b;set a 0;calc c d minus b;stop;").due("constantOf(0)", 999)
            .due("constantOf(1)", 999).due("constantOf(2)", 0).due("constantOf(3)", 0).due("constantOf(4)", 1);
        String none = "NONE if there is none, if the instruction is no definition, or if its block is not reachable";
        says(39, none).load("block;branch a 1 2;block;set b 1;goto 2;block;move c b;calc d b plus b;stop;")
            .due("constantOf(1)", -1).due("constantOf(2)", -1);
        says(39, none).load("block;set a 5;show a;stop;").due("constantOf(1)", -1);
        says(39, none).load("block;stop;block;set a 5;move b a;calc c a plus a;stop;").dueEach("constantOf(%)", -1, 0, 1, 2)
            .due("setGoto(0,1)", 2).due("constantOf(0)", 5).due("constantOf(2)", 10);
        String decided = "Returns the number of branches of reachable blocks whose variables have constants at the points "
            + "before them";
        says(40, decided).due("decidedBranches()", 0).due("setGoto(2,3)", 4).due("decidedBranches()", 1);
        says(40, decided).load("block;stop;block;set a 1;branch a 0 0;").due("decidedBranches()", 0).due("setGoto(0,1)", 2)
            .due("decidedBranches()", 1);
        // At the beginning of the block without a constant, but before the branch with one; and the other way round.
        says(40, decided).load("block;calc a a plus b;set b 1;goto 1;block;branch c 0 2;block;set a 3;branch a 3 3;block;stop;")
            .due("decidedBranches()", 2).due("constantAt(2,0)", -1);
        says(40, decided).load("block;branch b 1 2;block;set a 1;goto 2;block;move c a;branch c 0 0;").due("constantAt(2,2)", -1)
            .due("decidedBranches()", 1);
        says(40, "Returns the number of blocks").load("block;branch a 1 1;block;branch b 2 2;block;branch h 0 0;")
            .due("decidedBranches()", 3).load(Texts.gotos(12)).due("decidedBranches()", 0)
            .load("block;branch a 11 1;" + "block;branch a 2 3;block;branch a 3 4;block;branch a 4 5;block;branch a 5 6;"
            + "block;branch a 6 7;block;branch a 7 8;block;branch a 8 9;block;branch a 9 10;block;branch a 10 11;"
            + "block;branch a 0 11;block;branch a 0 0;").due("decidedBranches()", 12);
    }

    public static void main(String[] arguments) throws IOException {
        document = new Sentences();
        promise1();
        promise2();
        promise3();
        promise4();
        promise5And6();
        promise7To11();
        promise12();
        promise13To15();
        promise16To18();
        promise19();
        promise20();
        promise21To24();
        promise25To27();
        promise28To31();
        promise32To34();
        promise35To37();
        promise38To40();
        EditTests.all(document);
        document.checkAllQuoted(1, 60);
        Calls.finish("BoundaryTests");
    }
}
