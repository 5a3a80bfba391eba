/** Each sentence of the promises 41 to 60, on runs, actions, output, undo and snapshots, at the edges that it names. */
final class EditTests {
    private static final String BOUNDS = "IndexOutOfBoundsException";
    private static final String ARGUMENT = "IllegalArgumentException";
    private static final String BLOCK = "block: number of a block";
    private static final String VARIABLE = "variable: 0 to 7";
    private static final String THROWS_BOUNDS = "Throws IndexOutOfBoundsException see above";
    private static final String THROWS_NO_BLOCKS = "Throws IndexOutOfBoundsException if there are no such blocks";

    private static Sentences document;

    private EditTests() {
    }

    private static Calls says(int promise, String sentence) {
        return document.says(promise, sentence);
    }

    private static void limit(int promise, String name) {
        says(promise, "limit: 1 to 1000").accepts(name + "(%)", 1, 2, 999, 1000);
        says(promise, "Throws IllegalArgumentException if limit is out of range").refuses(ARGUMENT, name + "(%)", 0, -1, 1001,
            Texts.LEAST, Texts.MOST);
    }

    private static void steps(int promise, String thrown, String call) {
        says(promise, "steps: 0 to 1000").accepts(call, 0, 1, 999, 1000);
        says(promise, thrown).refuses(ARGUMENT, call, -1, 1001, 1002, Texts.LEAST, Texts.MOST);
    }

    private static void range(int promise, String parameter, String thrown, String call, int highest) {
        says(promise, parameter).accepts(call, 0, 1, highest - 1, highest);
        says(promise, thrown).refuses(ARGUMENT, call, -1, highest + 1, Texts.LEAST, Texts.MOST).due("instructionCount()", 8)
            .dueState("undo()");
    }

    // ---- runs

    private static void promise41And42() {
        limit(41, "runSteps");
        says(41, "Returns the number of steps of a run").due("runSteps(1000)", 34).load("block;stop;").due("runSteps(1000)", 1);
        String until = "Returns the number of steps until the run ends, or the limit if it does not end within this number "
            + "of steps";
        says(41, until).due("runSteps(35)", 34).due("runSteps(34)", 34).due("runSteps(33)", 33).due("runSteps(1)", 1);
        says(41, until).load(Texts.countdown(498)).due("runSteps(1000)", 1000).due("runSteps(999)", 999)
            .load(Texts.countdown(499)).due("runSteps(1000)", 1000).load("block;goto 0;").due("runSteps(1000)", 1000)
            .due("runSteps(1)", 1);
        limit(42, "runEnds");
        says(42, "Tells whether a run ends").due("runEnds(1000)", true).load("block;goto 0;").due("runEnds(1000)", false);
        says(42, "Returns true if the run ends within this number of steps").due("runEnds(33)", false).due("runEnds(34)", true)
            .due("runEnds(35)", true).load(Texts.countdown(498)).due("runEnds(999)", false).due("runEnds(1000)", true)
            .load(Texts.countdown(499)).due("runEnds(1000)", false).load("block;stop;").due("runEnds(1)", true);
    }

    private static void promise43And44() {
        String range = "Throws IllegalArgumentException if steps or variable is out of range";
        steps(43, range, "valueAfter(%,7)");
        says(43, VARIABLE).accepts("valueAfter(1000,%)", 0, 1, 2, 3, 4, 5, 6, 7);
        says(43, range).refuses(ARGUMENT, "valueAfter(1000,%)", -1, 8, Texts.LEAST, Texts.MOST)
            .refuses(ARGUMENT, "valueAfter(1001,%)", 0, 8);
        says(43, "Returns the value of a variable during a run").load("block;set a 1;set a 2;goto 0;").due("valueAfter(0,0)", 0)
            .due("valueAfter(1,0)", 1).due("valueAfter(2,0)", 2).due("valueAfter(3,0)", 2).due("valueAfter(4,0)", 1);
        String value = "Returns the value after this number of steps, or at the end of the run if it ends earlier";
        says(43, value).load(Texts.countdown(499)).due("valueAfter(999,0)", 1).due("valueAfter(1000,0)", 0);
        says(43, value).load("block;set h 999;stop;").due("valueAfter(0,7)", 0).due("valueAfter(1,7)", 999)
            .due("valueAfter(2,7)", 999).due("valueAfter(3,7)", 999).due("valueAfter(1000,7)", 999);
        steps(44, "Throws IllegalArgumentException if steps is out of range", "lastShown(%)");
        says(44, "Returns the last value that is shown in the first steps of a run")
            .load("block;set a 7;show a;set a 999;show a;stop;").due("lastShown(1)", -1).due("lastShown(2)", 7)
            .due("lastShown(3)", 7).due("lastShown(4)", 999).due("lastShown(5)", 999);
        says(44, "Returns the value").load("block;show a;set a 3;stop;").due("lastShown(1)", 0).due("lastShown(1000)", 0)
            .load(Texts.countdown(498).replace("stop", "show b;stop")).due("lastShown(999)", -1).due("lastShown(1000)", 1);
        says(44, "NONE if nothing is shown in these steps").load("block;show a;stop;").due("lastShown(0)", -1)
            .due("lastShown(1)", 0).load("block;branch a 1 2;block;show a;stop;block;stop;").due("lastShown(1000)", -1);
    }

    private static void promise45And46() {
        BoundaryTests.block(document, 45, BLOCK, THROWS_BOUNDS, "visits(%,1000)");
        steps(45, "Throws IllegalArgumentException if steps is out of range", "visits(3,%)");
        says(45, "Returns how often a block is entered in the first steps of a run").due("visits(1,3)", 0)
            .due("visits(1,4)", 1).due("visits(1,1000)", 6).due("visits(2,1000)", 5).due("visits(3,1000)", 1);
        String times = "Returns the number of times that the run is at the beginning of the block, the beginning of the run "
            + "for the entry included";
        says(45, times).due("visits(0,0)", 1).due("visits(0,1000)", 1).due("visits(3,0)", 0);
        says(45, times).load("block;goto 0;").due("visits(0,0)", 1).due("visits(0,1)", 2).due("visits(0,1000)", 1001);
        says(45, times).load("block;show a;branch a 0 0;").due("visits(0,1)", 1).due("visits(0,2)", 2).due("visits(0,3)", 2)
            .due("visits(0,1000)", 501);
        says(46, "Checks the analyses against a run of 200 steps").due("auditDifference()", 0).load(Texts.countdown(499))
            .due("auditDifference()", 0);
        String sum = "Returns the number of steps before which a variable has another value than its constant at this point, "
            + "plus the number of steps before which a variable whose initial value does not reach this point was never "
            + "defined in the run";
        says(46, sum).load("block;set a 999;set b 1;calc c a plus b;calc d c minus b;branch c 1 2;block;stop;block;"
            + "calc a a plus b;branch a 0 2;").due("auditDifference()", 0);
        says(46, "always 0").load("block;stop;").due("auditDifference()", 0).load("block;goto 0;").due("auditDifference()", 0)
            .load(Texts.many(40, "calc a a minus b;")).due("auditDifference()", 0);
    }

    private static void promise47And48() {
        says(47, "Returns the share of the definitions that are dead").due("deadShare()", 2.0f / 7.0f);
        String share = "Returns the number of dead definitions as a float divided by the number of definitions as a float";
        says(47, share).load("block;set a 1;set b 2;set c 3;show a;show b;stop;").due("deadShare()", 1.0f / 3.0f)
            .due("removeInstruction(2)", 4).due("deadShare()", 0.0f).load(Texts.many(40, "set a 1;")).due("deadShare()", 1.0f)
            .load("block;move a b;calc c d plus e;show c;stop;").due("deadShare()", 0.5f);
        says(47, "0.0f if there are no definitions").load("block;stop;").due("deadShare()", 0.0f).load(Texts.shows(40))
            .due("deadShare()", 0.0f);
        says(48, "Returns the mean number of live variables before the instructions").due("meanLive()", 15.0 / 8.0);
        says(48, "Returns the sum of liveBefore over all instructions as a double divided by their number as a double")
            .load("block;set a 1;show a;set a 1;stop;").due("meanLive()", 1.0 / 3.0).load(Texts.allLive())
            .due("meanLive()", 8.0).load("block;set a 1;stop;").due("meanLive()", 0.0);
        says(48, "Returns the sum of liveBefore over all instructions as a double divided by their number as a double")
            .load("block;" + "set b 1;".repeat(40) + "branch a 0 0;").due("meanLive()", 1.0);
        says(48, "0.0 if there are no instructions").load("block;branch a 0 0;").due("meanLive()", 0.0);
    }

    // ---- actions

    private static final String POSITION = "position: 0 to the number of instructions of the block: the number of "
        + "instructions of the block before the new one";
    private static final String NEW_NUMBER = "Returns the number of the new instruction";
    private static final String FULL = "Throws IllegalStateException if the program has 40 instructions";

    /** What insertSet and insertCalc have in common; the rest of their parameters is given. */
    private static void insertion(int promise, String thrown, String name, String rest) {
        BoundaryTests.block(document, promise, BLOCK, THROWS_BOUNDS, name + "(%,0" + rest);
        says(promise, POSITION).due(name + "(2,0" + rest, 4).due(name + "(2,3" + rest, 7).due(name + "(2,2" + rest, 6)
            .dueEach("kindOf(%)", 2, 5, 7).due("instructionsIn(2)", 5).due("instructionsIn(3)", 2).due("blockOf(8)", 2)
            .due("blockOf(9)", 3);
        says(promise, thrown).refuses(ARGUMENT, name + "(0,%" + rest, -1, 4, 5, Texts.LEAST, Texts.MOST)
            .refuses(ARGUMENT, name + "(1,%" + rest, -1, 2).due(name + "(1,1" + rest, 4).refuses(ARGUMENT, name + "(1,%" + rest, 3)
            .due(name + "(1,2" + rest, 5).due("undo()", 1).due("undo()", 0).refuses(ARGUMENT, name + "(1,%" + rest, 2)
            .load("block;stop;").refuses(ARGUMENT, name + "(0,%" + rest, -1, 1).dueState("undo()");
        says(promise, NEW_NUMBER).load("block;goto 1;block;show a;goto 2;block;goto 3;block;show b;stop;")
            .due(name + "(2,0" + rest, 1).due("blockOf(1)", 2).due(name + "(0,0" + rest, 0).due("blockOf(0)", 0)
            .due("blockOf(1)", 1).due(name + "(3,1" + rest, 4).due("blockOf(4)", 3).due("blockOf(2)", 2)
            .due("blockOf(3)", 3).due("kindOf(3)", 3);
        says(promise, NEW_NUMBER).load(Texts.shows(39)).due(name + "(0,39" + rest, 39).due("instructionCount()", 40)
            .due("undo()", 0).due(name + "(0,0" + rest, 0).due("instructionCount()", 40).due("kindOf(39)", 3);
        says(promise, FULL).load(Texts.shows(40)).dueState(name + "(0,0" + rest).dueState(name + "(0,40" + rest)
            .dueArgument(name + "(0,41" + rest).dueBounds(name + "(1,0" + rest).due("instructionCount()", 40)
            .dueState("undo()").due("removeInstruction(20)", 39).due(name + "(0,20" + rest, 20).dueState(name + "(0,20" + rest)
            .due("undo()", 1).due("undo()", 0).dueState(name + "(0,0" + rest);
    }

    private static void promise49() {
        String thrown = "Throws IllegalArgumentException if position, target or constant is out of range";
        insertion(49, thrown, "insertSet", ",0,0)");
        range(49, "target: 0 to 7", thrown, "insertSet(0,0,%,0)", 7);
        range(49, "constant: 0 to 999", thrown, "insertSet(0,0,0,%)", 999);
        says(49, "Inserts a SET into a block").load("block;show a;stop;").due("insertSet(0,1,7,999)", 1)
            .due("insertSet(0,0,0,0)", 0).dueProgram("set a 0;show a;set h 999;stop;").due("kindOf(2)", 0);
    }

    private static void promise50() {
        String thrown = "Throws IllegalArgumentException if another parameter is out of range";
        insertion(50, thrown, "insertCalc", ",0,0,0,0)");
        range(50, "target: 0 to 7", thrown, "insertCalc(0,0,%,0,0,0)", 7);
        range(50, "left: 0 to 7", thrown, "insertCalc(0,0,0,%,0,0)", 7);
        range(50, "operator: PLUS, MINUS or TIMES", thrown, "insertCalc(0,0,0,0,%,0)", 2);
        range(50, "right: 0 to 7", thrown, "insertCalc(0,0,0,0,0,%)", 7);
        says(50, "Inserts a CALC into a block").load("block;show a;stop;").due("insertCalc(0,1,7,6,2,5)", 1)
            .due("insertCalc(0,0,0,1,1,2)", 0).due("insertCalc(0,2,3,4,0,5)", 2)
            .dueProgram("calc a b minus c;show a;calc d e plus f;calc h g times f;stop;");
    }

    private static void promise51() {
        String number = "instruction: number of an instruction";
        says(51, number).load(Texts.shows(40)).due("removeInstruction(39)", 39).due("removeInstruction(0)", 38)
            .due("removeInstruction(37)", 37).dueBounds("removeInstruction(37)").due("undo()", 2)
            .due("removeInstruction(37)", 37);
        says(51, THROWS_BOUNDS).refuses(BOUNDS, "removeInstruction(%)", -1, 8, 40, Texts.LEAST, Texts.MOST).dueState("undo()")
            .load("block;show a;stop;").refuses(BOUNDS, "removeInstruction(%)", -1, 1).due("removeInstruction(0)", 0)
            .refuses(BOUNDS, "removeInstruction(%)", -1, 0).due("undo()", 0);
        says(51, "Removes an instruction").load("block;show a;goto 1;block;show b;show c;show d;goto 2;block;show e;stop;")
            .due("removeInstruction(2)", 4).dueProgram("show a;goto 1;", "show b;show d;goto 2;", "show e;stop;")
            .due("removeInstruction(0)", 3).dueProgram("goto 1;", "show b;show d;goto 2;", "show e;stop;")
            .due("removeInstruction(2)", 2).dueProgram("goto 1;", "show b;show d;goto 2;", "stop;");
        says(51, "Returns the number of instructions that are left").load("block;show a;show b;stop;")
            .due("removeInstruction(0)", 1).due("removeInstruction(0)", 0).load(Texts.shows(40)).due("removeInstruction(0)", 39);
    }

    private static void promise52() {
        BoundaryTests.block(document, 52, BLOCK, THROWS_NO_BLOCKS, "setGoto(%,0)");
        BoundaryTests.block(document, 52, "next: number of a block, which may be the same", THROWS_NO_BLOCKS, "setGoto(0,%)");
        says(52, "Replaces the exit of a block: it goes to another block").due("setGoto(1,3)", 3).due("successor(1,0)", 3)
            .dueNoSuch("successor(1,1)").due("setGoto(3,1)", 3).due("successor(3,0)", 1)
            .dueProgram("set a 5;set b 1;set d 7;goto 1;", "calc c a plus b;goto 3;",
            "calc a a minus b;calc e a plus b;goto 1;", "show c;move f d;goto 1;");
        says(52, "next: number of a block, which may be the same").due("setGoto(2,2)", 4).due("successor(2,0)", 2)
            .due("loopSize(2)", 1).due("setGoto(0,0)", 1).due("runEnds(1000)", false);
        String reachable = "Returns the number of reachable blocks after the call";
        says(52, reachable).load(Texts.chain(12)).due("setGoto(11,0)", 12).due("setGoto(0,0)", 1).due("setGoto(0,1)", 12)
            .due("setGoto(0,11)", 2).due("setGoto(11,6)", 7);
        // The branch that is gone uses its variable no more.
        says(52, reachable).load("block;branch h 1 1;block;stop;").due("isLiveIn(0,7)", true).due("setGoto(0,1)", 2)
            .due("isLiveIn(0,7)", false).due("decidedBranches()", 0).due("undo()", 0).due("isLiveIn(0,7)", true);
    }

    private static void promise53() {
        BoundaryTests.block(document, 53, BLOCK, THROWS_NO_BLOCKS, "setBranch(%,0,0,0)");
        BoundaryTests.block(document, 53, "first: number of the block if the value is not 0", THROWS_NO_BLOCKS,
            "setBranch(0,0,%,0)");
        BoundaryTests.block(document, 53, "second: number of the block if the value is 0", THROWS_NO_BLOCKS,
            "setBranch(0,0,0,%)");
        says(53, VARIABLE).accepts("setBranch(3,%,0,0)", 0, 1, 2, 3, 4, 5, 6, 7);
        says(53, "Throws IllegalArgumentException see above").refuses(ARGUMENT, "setBranch(3,%,0,0)", -1, 8, Texts.LEAST,
            Texts.MOST).dueState("undo()").refuses(BOUNDS, "setBranch(%,8,0,0)", -1, 4)
            .refuses(BOUNDS, "setBranch(0,8,%,0)", -1, 4).refuses(BOUNDS, "setBranch(0,8,0,%)", -1, 4);
        says(53, "Replaces the exit of a block: it branches").due("setBranch(3,7,0,3)", 4).due("setBranch(0,1,3,2)", 4)
            .dueProgram("set a 5;set b 1;set d 7;branch b 3 2;", "calc c a plus b;branch a 2 3;",
            "calc a a minus b;calc e a plus b;goto 1;", "show c;move f d;branch h 0 3;");
        says(53, "first: number of the block if the value is not 0").load(Texts.stops(3)).due("setBranch(0,7,2,1)", 3)
            .due("successor(0,0)", 2).due("visits(2,1)", 0).due("insertSet(0,0,7,999)", 0).due("visits(2,2)", 1);
        says(53, "second: number of the block if the value is 0").load(Texts.stops(3)).due("setBranch(0,7,2,1)", 3)
            .due("successor(0,1)", 1).due("visits(1,1)", 1).due("insertSet(0,0,7,999)", 0).due("visits(1,1000)", 0);
        says(53, "Returns the number of reachable blocks after the call").load(Texts.stops(12)).due("setBranch(0,0,0,0)", 1)
            .due("setBranch(0,0,11,11)", 2).due("setBranch(11,0,5,6)", 4).due("setBranch(0,0,0,0)", 1)
            .load(Texts.chain(12)).due("setBranch(0,0,1,11)", 12);
    }

    private static void promise54And55() {
        String dead = "Removes all dead definitions, and repeats this until there are none";
        says(54, dead).load("block;set a 1;move b a;calc c b plus b;move d c;show e;stop;").due("removeDead()", 4)
            .dueProgram("show e;stop;").due("deadDefinitions()", 0);
        says(54, dead).load("block;set a 1;set a 2;show a;set a 3;stop;block;set b 1;goto 0;").due("removeDead()", 3)
            .dueProgram("set a 2;show a;stop;", "goto 0;");
        // What uses only itself round a loop is not dead.
        says(54, dead).load("block;calc a a plus a;goto 0;").due("removeDead()", 0).dueProgram("calc a a plus a;goto 0;");
        // Each definition is used by the next one, so that one falls a round.
        String chain = "block;" + "move b a;move c b;move d c;move e d;move f e;move g f;move h g;move a h;".repeat(5) + "stop;";
        says(54, dead).load(chain).due("deadDefinitions()", 1).due("removeDead()", 40).dueProgram("stop;");
        says(54, "Returns the number of removed instructions").due("removeDead()", 3).due("removeDead()", 0)
            .load(Texts.many(40, "set a 1;")).due("removeDead()", 40).due("removeDead()", 0).due("undo()", 1).due("undo()", 0)
            .due("instructionCount()", 40).load(Texts.shows(40)).due("removeDead()", 0);
        String fold = "Replaces every MOVE and CALC of a reachable block whose constantOf is not NONE by a SET of this constant";
        says(55, fold).load("block;set a 999;move b a;calc c a plus a;calc d e minus a;show b;goto 1;block;calc f f plus d;"
            + "move g f;branch f 1 2;block;move h d;stop;").due("foldConstants()", 4)
            .dueProgram("set a 999;set b 999;set c 998;set d 1;show b;goto 1;", "calc f f plus d;move g f;branch f 1 2;",
            "set h 1;stop;");
        says(55, fold).load("block;stop;block;set a 1;move b a;calc c a plus b;stop;").due("foldConstants()", 0)
            .dueProgram("stop;", "set a 1;move b a;calc c a plus b;stop;").due("setGoto(0,1)", 2).due("foldConstants()", 2)
            .dueBlock(1, "set a 1;set b 1;set c 2;stop;");
        says(55, "Returns the number of replaced instructions").load(Texts.many(40, "move a b;")).due("foldConstants()", 40)
            .due("foldConstants()", 0).due("undo()", 1).due("undo()", 0).due("kindOf(39)", 1).load("block;set a 1;show a;stop;")
            .due("foldConstants()", 0).load("block;stop;").due("foldConstants()", 0);
    }

    // ---- output, undo and snapshots

    private static void promise56() {
        BoundaryTests.block(document, 56, BLOCK, THROWS_BOUNDS, "writeBlock(%)");
        String writes = "Writes a block into the output buffer, which is replaced, as in a program text, but without the word "
            + "block: each instruction with single spaces between its tokens, and a semicolon (byte 59) behind it, then the "
            + "exit and a semicolon";
        says(56, writes).load(" block ;\nset  a  0007 ; set b 10;set c 99;set d 100;set e 999;set f 0;move a h;calc h g times f;"
            + "calc a b plus c;calc d e minus f;show g;branch h 0010 011;" + Texts.stops(9) + "block;goto 10;block;goto 009;")
            .dueBlock(0, "set a 7;set b 10;set c 99;set d 100;set e 999;set f 0;move a h;calc h g times f;calc a b plus c;"
            + "calc d e minus f;show g;branch h 10 11;").dueBlock(1, "stop;").dueBlock(10, "goto 10;").dueBlock(11, "goto 9;");
        String longest = "calc a b minus c;".repeat(40) + "branch h 10 11;";
        Calls full = says(56, writes).load(Texts.stops(12));
        for (int i = 0; i < 40; i++) {
            full.due("insertCalc(0,0,0,1,1,2)", 0);
        }
        full.due("setBranch(0,7,10,11)", 3).due("writeBlock(0)", 695).due("outputByte(694)", 59).due("outputByte(695)", -1)
            .due("outputByte(692)", (int) '1').due("outputByte(680)", (int) 'b').due("outputByte(679)", 59);
        Calls.check("the longest block", longest.length(), 695);
        says(56, "Returns the length of the output in bytes").due("writeBlock(0)", 31).due("writeBlock(3)", 21)
            .load("block;stop;").due("writeBlock(0)", 5);
    }

    private static void promise57() {
        String write = "calc c a plus b;branch a 2 3;";
        Calls bytes = says(57, "Returns a byte of the output buffer").due("writeBlock(1)", write.length());
        for (int i = 0; i < write.length(); i++) {
            bytes.due("outputByte(" + i + ")", (int) write.charAt(i));
        }
        Calls kept = says(57, "Only writeBlock changes the output buffer").due("writeBlock(1)", write.length())
            .dueBounds("writeBlock(4)").dueBounds("writeBlock(-1)").due("insertSet(1,0,0,0)", 3).due("setGoto(1,0)", 2)
            .due("undo()", 1).due("removeDead()", 5).due("foldConstants()", 1).due("saveSnapshot(0)", null)
            .refuse("block;", 1, 6).due("restoreSnapshot(0)", null).load("block;stop;");
        for (int i = 0; i < write.length(); i++) {
            kept.due("outputByte(" + i + ")", (int) write.charAt(i));
        }
        kept.due("outputByte(" + write.length() + ")", -1);
        says(57, "index: 0 for the first byte").due("writeBlock(3)", 21).due("outputByte(0)", (int) 's')
            .due("outputByte(20)", (int) ';');
        says(57, "Returns the byte").load("block;branch h 0 0;").due("writeBlock(0)", 13).due("outputByte(6)", 32)
            .due("outputByte(7)", 104).due("outputByte(9)", 48).due("outputByte(12)", 59);
        String none = "NONE if there is no such byte";
        says(57, none).dueEach("outputByte(%)", -1, 0, 1, -1, Texts.LEAST, Texts.MOST);
        says(57, none).due("writeBlock(3)", 21).dueEach("outputByte(%)", -1, 21, 22, 703, 704, -1, Texts.LEAST, Texts.MOST)
            // A shorter output leaves nothing of a longer one.
            .load("block;stop;").due("writeBlock(0)", 5).due("outputByte(4)", 59).dueEach("outputByte(%)", -1, 5, 6, 20);
    }

    private static void promise58() {
        String undoes = "Undoes the most recent action that has not been undone";
        String last = "set d 4;set c 1;show b;stop;";
        says(58, undoes).load("block;set a 1;move b a;goto 1;block;set c 1;show b;stop;").due("insertSet(1,0,3,4)", 2)
            .due("insertCalc(0,0,0,1,2,3)", 0).due("removeInstruction(1)", 5).due("foldConstants()", 2)
            .due("removeDead()", 3).due("setBranch(0,7,1,0)", 2).dueProgram("set b 0;branch h 1 0;", "show b;stop;")
            .due("undo()", 5).dueProgram("set b 0;goto 1;", "show b;stop;")
            .due("undo()", 4).dueProgram("set a 0;set b 0;goto 1;", last)
            .due("undo()", 3).dueProgram("calc a b times d;move b a;goto 1;", last)
            .due("undo()", 2).dueProgram("calc a b times d;set a 1;move b a;goto 1;", last)
            .due("undo()", 1).dueProgram("set a 1;move b a;goto 1;", last)
            .due("undo()", 0).dueProgram("set a 1;move b a;goto 1;", "set c 1;show b;stop;").dueState("undo()");
        says(58, undoes).load("block;goto 1;block;stop;").due("setGoto(0,0)", 1).due("setBranch(0,3,1,1)", 2).due("undo()", 1)
            .due("setGoto(1,1)", 1).dueProgram("goto 0;", "goto 1;").due("undo()", 1).dueProgram("goto 0;", "stop;")
            .due("undo()", 0).dueProgram("goto 1;", "stop;").dueState("undo()");
        String same = "The text buffer, the reported error, the output buffer and the snapshots do not change";
        says(58, same).refuse("block;goto 1;", 4, 11).due("saveSnapshot(1)", null).due("removeDead()", 3).due("writeBlock(3)", 12)
            .text("block;stop;").due("undo()", 0).due("errorCode()", 4).due("errorPosition()", 11)
            .due("outputByte(11)", 59).due("outputByte(12)", -1).dueArgument("truncateText(12)").due("loadProgram()", 1)
            .dueState("restoreSnapshot(0)").due("restoreSnapshot(1)", null).due("instructionCount()", 8);
        // A snapshot of what the action made is not taken back with it.
        says(58, same).due("removeDead()", 3).due("saveSnapshot(0)", null).due("undo()", 0).due("instructionCount()", 8)
            .due("restoreSnapshot(0)", null).due("instructionCount()", 5);
        says(58, "Returns the number of actions that can still be undone").due("foldConstants()", 1).due("undo()", 0)
            .due("foldConstants()", 1).due("removeDead()", 3).due("undo()", 1).due("undo()", 0);
        String none = "Throws IllegalStateException if no action can be undone";
        says(58, none).dueState("undo()").due("instructionCount()", 8).due("removeDead()", 3).due("undo()", 0).dueState("undo()")
            .dueState("undo()").due("removeDead()", 3).due("undo()", 0);
        says(58, none).due("removeDead()", 3).load("block;stop;").dueState("undo()");
        says(58, none).due("saveSnapshot(0)", null).due("removeDead()", 3).due("restoreSnapshot(0)", null).dueState("undo()");
        says(58, none).dueBounds("setGoto(4,0)").dueArgument("insertSet(0,4,0,0)").dueState("undo()");
    }

    private static void promise59() {
        String saves = "Saves the program in a snapshot, in place of an earlier one with the same number";
        says(59, saves).due("saveSnapshot(0)", null).due("removeInstruction(7)", 7).due("saveSnapshot(1)", null)
            .due("removeInstruction(6)", 6).due("saveSnapshot(0)", null).load("block;stop;").due("restoreSnapshot(1)", null)
            .due("instructionCount()", 7).due("blockCount()", 4).due("restoreSnapshot(0)", null)
            .dueProgram("set a 5;set b 1;set d 7;goto 1;", "calc c a plus b;branch a 2 3;",
            "calc a a minus b;calc e a plus b;goto 1;", "stop;");
        says(59, "This is not an action").due("saveSnapshot(0)", null).dueState("undo()").due("removeDead()", 3)
            .due("saveSnapshot(0)", null).due("undo()", 0).due("instructionCount()", 8);
        says(59, "number: 0 or 1").accepts("saveSnapshot(%)", 0, 1, 0, 1).accepts("restoreSnapshot(%)", 0, 1);
        says(59, "Throws IllegalArgumentException if number is out of range").refuses(ARGUMENT, "saveSnapshot(%)", -1, 2,
            Texts.LEAST, Texts.MOST).dueState("restoreSnapshot(0)").dueState("restoreSnapshot(1)");
    }

    private static void promise60() {
        says(60, "Replaces the program by a snapshot").load("block;goto 1;block;set h 999;branch h 0 1;")
            .due("saveSnapshot(1)", null).load("block;stop;").due("isReachable(0)", true).due("restoreSnapshot(1)", null)
            .dueProgram("goto 1;", "set h 999;branch h 0 1;").due("isReachable(1)", true).due("constantOf(0)", 999)
            .due("backEdges()", 2);
        String stays = "The snapshot stays saved, and no action can be undone after the call";
        says(60, stays).due("saveSnapshot(0)", null).due("removeDead()", 3).due("restoreSnapshot(0)", null).dueState("undo()")
            .due("instructionCount()", 8).due("removeInstruction(0)", 7).due("setGoto(0,0)", 1).due("restoreSnapshot(0)", null)
            .dueState("undo()").due("instructionCount()", 8).due("successor(0,0)", 1).due("removeInstruction(0)", 7)
            .due("undo()", 0).dueState("undo()").due("instructionCount()", 8).due("restoreSnapshot(0)", null);
        says(60, "number: 0 or 1").due("saveSnapshot(0)", null).due("removeInstruction(0)", 7).due("saveSnapshot(1)", null)
            .due("restoreSnapshot(0)", null).due("instructionCount()", 8).due("restoreSnapshot(1)", null)
            .due("instructionCount()", 7);
        says(60, "Throws IllegalArgumentException if number is out of range").due("saveSnapshot(0)", null)
            .due("saveSnapshot(1)", null).due("removeDead()", 3).refuses(ARGUMENT, "restoreSnapshot(%)", -1, 2, Texts.LEAST,
            Texts.MOST).due("instructionCount()", 5).due("undo()", 0);
        String none = "Throws IllegalStateException if there is no such snapshot";
        says(60, none).due("removeDead()", 3).dueState("restoreSnapshot(0)").dueState("restoreSnapshot(1)")
            .due("instructionCount()", 5).due("undo()", 0).due("saveSnapshot(1)", null).dueState("restoreSnapshot(0)")
            .due("restoreSnapshot(1)", null);
        says(60, none).due("saveSnapshot(0)", null).dueState("restoreSnapshot(1)").due("restoreSnapshot(0)", null);
    }

    static void all(Sentences sentences) {
        document = sentences;
        promise41And42();
        promise43And44();
        promise45And46();
        promise47And48();
        promise49();
        promise50();
        promise51();
        promise52();
        promise53();
        promise54And55();
        promise56();
        promise57();
        promise58();
        promise59();
        promise60();
    }
}
