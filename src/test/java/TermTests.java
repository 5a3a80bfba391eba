import java.io.IOException;

/** Each sentence of the document's terms, but for the part on texts, at the edges that it names. */
public final class TermTests {
    private static final String BOUNDS = "IndexOutOfBoundsException";
    private static final String ARGUMENT = "IllegalArgumentException";

    private static Sentences document;

    private static Calls says(String sentence) {
        return document.says(Sentences.TERMS, sentence);
    }

    private static void object() {
        Calls calls = says("An object is used for at most 512 calls after it has been made");
        for (int call = 1; call < 511; call++) {
            calls.due("setGoto(0,1)", 4);
        }
        calls.due("insertSet(0,3,7,999)", 3).due("undo()", 5);
    }

    private static void program() {
        says("A program has 1 to 12 basic blocks, numbered from 0")
            .load(Texts.stops(1)).due("blockCount()", 1).due("instructionsIn(0)", 0).dueBounds("instructionsIn(1)")
            .load(Texts.stops(12)).due("blockCount()", 12).due("instructionsIn(11)", 0).dueBounds("instructionsIn(12)")
            .refuse("", 1, 0).refuse(Texts.stops(13), 3, 132).due("blockCount()", 12);
        says("block 0 is the entry").load("block;stop;block;goto 0;").due("isReachable(0)", true)
            .due("isReachable(1)", false).due("distanceTo(0)", 0).due("visits(0,0)", 1).due("visits(1,1000)", 0)
            .due("dominates(0,0)", true);
        says("There are 8 variables, numbered 0 to 7 and named a to h in texts")
            .load("block;set a 1;set b 2;set c 3;set d 4;set e 5;set f 6;set g 7;set h 8;stop;")
            .due("valueAfter(8,0)", 1).due("valueAfter(8,1)", 2).due("valueAfter(8,2)", 3).due("valueAfter(8,3)", 4)
            .due("valueAfter(8,4)", 5).due("valueAfter(8,5)", 6).due("valueAfter(8,6)", 7).due("valueAfter(8,7)", 8)
            .refuses(ARGUMENT, "valueAfter(8,%)", -1, 8).refuseAt("block;set ^i 1;stop;", 1);
        says("Their values are integers from 0 to 999").load("block;set a 0;set b 999;stop;").due("valueAfter(3,0)", 0)
            .due("valueAfter(3,1)", 999).due("insertCalc(0,2,2,0,1,1)", 2).due("insertCalc(0,3,3,1,0,1)", 3)
            .due("valueAfter(9,2)", 1).due("valueAfter(9,3)", 998);
        says("A block consists of a sequence of instructions and an exit").load("block;stop;").due("instructionsIn(0)", 0)
            .load("block;show a;show b;stop;").due("instructionsIn(0)", 2).refuseAt("block;show a;^", 1)
            .refuseAt("block;show a;^block;stop;", 1).refuseAt("block;stop;^show a;", 1);
        says("A program has at most 40 instructions").load(Texts.shows(40)).due("instructionCount()", 40)
            .dueState("insertSet(0,0,0,0)").dueState("insertCalc(0,0,0,0,0,0)").due("removeInstruction(0)", 39)
            .due("insertSet(0,0,0,0)", 0).dueState("insertSet(0,0,0,0)").refuse(Texts.shows(41), 3, 286);
        String eleven = "block;show a;show a;show a;stop;".repeat(11);
        says("A program has at most 40 instructions").load(eleven + Texts.shows(7)).due("instructionCount()", 40)
            .refuseAt(eleven + "block;" + "show a;".repeat(7) + "^show a;stop;", 3);
        String numbered = "block;goto 2;block;set b 1;show b;stop;block;move c b;calc d b plus c;goto 1;";
        says("The instructions are numbered from 0 in the order of the blocks, and within a block in their sequence")
            .load(numbered).due("kindOf(0)", 0).due("kindOf(1)", 3).due("kindOf(2)", 1).due("kindOf(3)", 2)
            .due("blockOf(0)", 1).due("blockOf(1)", 1).due("blockOf(2)", 2).due("blockOf(3)", 2).dueBounds("blockOf(4)");
        says("the numbers change when instructions are inserted or removed").load(numbered).due("usesOf(0)", 1)
            .due("insertSet(0,0,0,0)", 0).due("usesOf(0)", 0).due("usesOf(1)", 1).due("blockOf(0)", 0)
            .due("blockOf(1)", 1).due("kindOf(4)", 2).due("insertCalc(1,2,0,0,0,0)", 3).due("kindOf(2)", 3)
            .due("kindOf(4)", 1).due("blockOf(4)", 2).due("removeInstruction(0)", 5).due("kindOf(0)", 0)
            .due("blockOf(0)", 1).due("kindOf(2)", 2).due("blockOf(2)", 1).due("kindOf(3)", 1).dueBounds("kindOf(5)");
    }

    private static void instructions() {
        says("There are four kinds").load("block;set a 1;move b c;calc d e plus f;show g;stop;").due("kindOf(0)", 0)
            .due("kindOf(1)", 1).due("kindOf(2)", 2).due("kindOf(3)", 3);
        says("A SET assigns a constant (0 to 999) to its target").load("block;set a 7;set a 0;set h 999;stop;")
            .due("valueAfter(1,0)", 7).due("valueAfter(2,0)", 0).due("valueAfter(2,7)", 0).due("valueAfter(3,7)", 999)
            .due("constantOf(2)", 999).refuseAt("block;set a ^1000;stop;", 2).accepts("insertSet(0,0,0,%)", 0, 999)
            .refuses(ARGUMENT, "insertSet(0,0,0,%)", -1, 1000);
        says("A MOVE assigns the value of its source variable to its target").load("block;set a 7;move b a;move b b;stop;")
            .due("valueAfter(1,1)", 0).due("valueAfter(2,1)", 7).due("valueAfter(2,0)", 7).due("valueAfter(3,1)", 7);
        says("A CALC assigns the result of an operation on its left and its right operand, which are variables, to its target")
            .load("block;set a 9;set b 4;calc c a minus b;calc a a minus a;stop;").due("valueAfter(3,2)", 5)
            .due("valueAfter(3,0)", 9).due("valueAfter(3,1)", 4).due("valueAfter(4,0)", 0)
            .refuseAt("block;calc a ^1 plus b;stop;", 1).refuseAt("block;calc a b plus ^1;stop;", 1);
        int[][] results = {{0, 0, 0, 0}, {999, 0, 0, 999}, {999, 0, 1, 0}, {999, 0, 999, 998}, {500, 0, 499, 999},
            {500, 0, 500, 0}, {0, 1, 0, 0}, {0, 1, 1, 999}, {0, 1, 999, 1}, {5, 1, 5, 0}, {999, 1, 0, 999},
            {1, 1, 999, 2}, {998, 1, 999, 999}, {0, 2, 999, 0}, {999, 2, 1, 999}, {999, 2, 999, 1}, {40, 2, 25, 0},
            {27, 2, 37, 999}, {7, 2, 143, 1}};
        for (int[] one : results) {
            says("the operator is plus, minus or times, and the result is taken modulo 1000 (from 0 to 999, also for a difference below 0)")
                .load(Texts.stops(1)).due("insertSet(0,0,0," + one[0] + ")", 0).due("insertSet(0,1,1," + one[2] + ")", 1)
                .due("insertCalc(0,2,2,0," + one[1] + ",1)", 2).due("valueAfter(3,2)", one[3])
                .due("constantOf(2)", one[3]).due("foldConstants()", 1)
                .dueBlock(0, "set a " + one[0] + ";set b " + one[2] + ";set c " + one[3] + ";stop;");
        }
        says("A SHOW shows the value of its source variable").load("block;set a 999;show a;set a 0;show a;show h;stop;")
            .due("lastShown(1)", -1).due("lastShown(2)", 999).due("lastShown(3)", 999).due("lastShown(4)", 0)
            .due("lastShown(6)", 0);
        String four = "block;set a 1;move b c;calc d e plus f;show g;goto 0;";
        says("SET, MOVE and CALC are definitions of their target").load(four).due("reaches(0,0)", true)
            .due("reaches(1,0)", true).due("reaches(2,0)", true).due("reaches(3,0)", false).due("isDead(0)", true)
            .due("isDead(1)", true).due("isDead(2)", true).due("isDead(3)", false).due("usesOf(3)", 0)
            .due("constantOf(3)", -1).due("reachingDefinitions(0,6)", 0);
        says("MOVE and SHOW use their source, CALC uses both operands").load(four).due("liveBefore(0)", 4)
            .dueEach("isLiveIn(0,%)", true, 2, 4, 5, 6).dueEach("isLiveIn(0,%)", false, 0, 1, 3, 7);
    }

    private static void exits() {
        String branch = "A block stops, or it goes to one block, or it branches on a variable, which it uses, to two "
            + "blocks: to the first one if the value of the variable is not 0, otherwise to the second one, which may "
            + "be the same block";
        says(branch).load("block;branch a 1 2;block;stop;block;goto 1;").due("isLiveIn(0,0)", true)
            .due("visits(1,1)", 0).due("visits(2,1)", 1).due("visits(1,2)", 1).due("runSteps(1000)", 3)
            .due("insertSet(0,0,0,1)", 0).due("visits(1,2)", 1).due("visits(2,1000)", 0).due("runSteps(1000)", 3)
            .due("insertSet(0,1,0,999)", 1).due("visits(1,3)", 1).due("visits(2,1000)", 0)
            // 999 plus 1 is 0 again.
            .due("insertSet(0,2,1,1)", 2).due("insertCalc(0,3,0,0,0,1)", 3).due("visits(1,5)", 0).due("visits(2,5)", 1);
        says(branch).load("block;branch a 1 1;block;stop;").due("successor(0,0)", 1).due("successor(0,1)", 1)
            .due("visits(1,1)", 1).due("insertSet(0,0,0,5)", 0).due("visits(1,2)", 1).due("isLiveIn(0,0)", false)
            .due("isDead(0)", false);
        says("The successors of a block are the blocks to which it goes or branches")
            .load("block;branch a 2 1;block;goto 0;block;stop;").due("successor(0,0)", 2).due("successor(0,1)", 1)
            .due("successor(1,0)", 0).dueNoSuch("successor(1,1)").dueNoSuch("successor(2,0)");
        says("A block is reachable if it is the entry or a successor of a reachable block")
            .load("block;goto 3;block;goto 2;block;goto 1;block;branch a 4 0;block;stop;block;goto 5;")
            .dueEach("isReachable(%)", true, 0, 3, 4).dueEach("isReachable(%)", false, 1, 2, 5)
            .due("setGoto(4,2)", 5).dueEach("isReachable(%)", true, 0, 1, 2, 3, 4).due("isReachable(5)", false);
    }

    private static void points() {
        says("There is a point before and a point after every instruction").load("block;set a 1;show a;stop;")
            .due("liveBefore(0)", 0).due("isDead(0)", false).due("liveBefore(1)", 1).due("isLiveOut(0,0)", false);
        says("the point after an instruction is also the point before the next one of its block, or the end of the block")
            .load("block;set a 1;set b 2;goto 1;block;show a;show b;stop;").due("liveBefore(1)", 1).due("isDead(0)", false)
            .due("isDead(1)", false).due("isLiveOut(0,1)", true).due("reaches(1,1)", true).due("constantAt(1,1)", 2);
        says("A path follows the instructions and exits, whatever the values of the variables are")
            .load("block;set a 0;branch a 1 2;block;show b;stop;block;stop;").due("visits(1,1000)", 0)
            .due("isReachable(1)", true).due("distanceTo(1)", 1).due("isLiveIn(0,1)", true).due("reaches(0,1)", true)
            .due("isInitialReaching(1,1)", true).due("constantAt(1,0)", 0).due("dominates(0,1)", true);
        says("It may begin and end at any point").load("block;stop;block;set a 1;goto 2;block;show a;stop;")
            .due("reaches(0,2)", true).due("isLiveIn(2,0)", true).due("isLiveIn(1,0)", false).due("isDead(0)", false)
            .due("usesOf(0)", 1);
    }

    private static void definitions() {
        String reaches = "A definition reaches a point if there is a path from the point after the definition to this "
            + "point without another definition of the same variable";
        says(reaches).load("block;set a 1;set b 1;set a 2;goto 0;").due("reaches(0,0)", false).due("reaches(1,0)", true)
            .due("reaches(2,0)", true).due("reachingDefinitions(0,0)", 1);
        // The definition itself is not another one.
        says(reaches).load("block;goto 1;block;set a 1;branch b 1 2;block;stop;").due("reaches(0,0)", false)
            .due("reaches(0,1)", true).due("reaches(0,2)", true);
        says(reaches).load("block;set a 1;branch b 1 2;block;move a c;goto 3;block;show a;goto 3;block;stop;")
            .due("reaches(0,3)", true).due("reaches(1,3)", true).due("reachingDefinitions(3,0)", 2)
            .due("setGoto(2,1)", 4).due("reaches(0,3)", false);
        says("The initial value of a variable reaches a point if there is a path from the beginning of the entry to this point without a definition of the variable")
            .load("block;branch a 1 2;block;set b 1;goto 2;block;stop;block;goto 0;").dueEach("isInitialReaching(%,1)",
            true, 0, 1, 2).due("isInitialReaching(3,1)", false).due("setGoto(0,1)", 3)
            .due("isInitialReaching(2,1)", false).due("isInitialReaching(2,0)", true);
        says("Paths through unreachable blocks count for definitions, too")
            .load("block;show a;stop;block;set a 1;goto 2;block;goto 0;").due("reaches(0,2)", false)
            .due("reaches(1,2)", true).due("reaches(1,0)", true).due("reachingDefinitions(0,0)", 1)
            .due("isInitialReaching(0,0)", true).due("isInitialReaching(2,0)", false).due("onlyDefinition(0,0)", -1);
    }

    private static void liveness() {
        String live = "A variable is live at a point if there is a path from this point to a use of the variable "
            + "without a definition of the variable before the use";
        says(live).load("block;move a a;stop;").due("isLiveIn(0,0)", true).due("isDead(0)", true);
        says(live).load("block;calc a b plus a;stop;").due("isLiveIn(0,0)", true).due("isLiveIn(0,1)", true);
        says(live).load("block;set a 1;show a;stop;").due("isLiveIn(0,0)", false).due("liveBefore(1)", 1);
        says(live).load("block;set c 1;branch c 0 0;").due("isLiveIn(0,2)", false).due("isDead(0)", false)
            .due("removeInstruction(0)", 0).due("isLiveIn(0,2)", true).due("isLiveOut(0,2)", true);
        // Defined on one way only.
        says(live).load("block;branch a 1 2;block;set b 1;goto 2;block;show b;stop;").due("isLiveIn(0,1)", true)
            .due("isLiveIn(1,1)", false).due("isLiveIn(2,1)", true).due("setGoto(0,1)", 3).due("isLiveIn(0,1)", false);
        says("A definition is dead if its target is not live at the point after it")
            .load("block;set a 1;set a 2;show a;stop;").due("isDead(0)", true).due("isDead(1)", false)
            .due("isDead(2)", false).due("insertSet(0,3,0,3)", 3).due("isDead(3)", true);
    }

    private static void expressions() {
        says("The expression of a CALC consists of its left operand, its operator and its right operand, in this order")
            .load("block;calc c a plus b;calc c b plus a;calc c a minus b;calc c a times b;calc d a plus b;stop;")
            .due("expressionCount()", 4).dueEach("isRedundant(%)", false, 0, 1, 2, 3).due("isRedundant(4)", true);
        String available = "An expression is available at a point of a reachable block if every path from the beginning "
            + "of the entry to this point contains a CALC with this expression after which none of its operands is "
            + "defined (also not by this CALC itself)";
        says(available).load("block;branch a 1 2;block;calc c a plus b;goto 3;block;goto 3;block;stop;")
            .due("availableAt(3)", 0).due("insertCalc(2,0,3,0,0,1)", 1).due("availableAt(3)", 1)
            .due("insertSet(2,1,1,0)", 2).due("availableAt(3)", 0).due("insertSet(1,0,1,0)", 0).due("availableAt(3)", 0)
            .due("insertCalc(2,2,3,0,0,1)", 4).due("availableAt(3)", 1);
        says(available).load("block;calc a a plus b;goto 1;block;stop;").due("availableAt(1)", 0);
        says(available).load("block;calc b a plus b;goto 1;block;stop;").due("availableAt(1)", 0);
        says(available).load("block;calc a a plus b;calc c a plus b;goto 1;block;stop;").due("availableAt(1)", 1);
        says(available).load("block;calc c a plus b;move b b;goto 1;block;stop;").due("availableAt(1)", 0);
        says(available).load("block;calc c a plus b;show a;calc d c plus c;goto 1;block;stop;").due("availableAt(1)", 2);
        // The path without any instruction leads to the beginning of the entry.
        says(available).load("block;calc c a plus b;goto 0;").due("availableAt(0)", 0).due("isRedundant(0)", false);
        says(available).load("block;calc c a plus b;goto 1;block;branch c 1 2;block;stop;block;set a 1;goto 1;")
            .due("availableAt(1)", 1).due("availableAt(2)", 1).due("setBranch(2,2,3,3)", 4).due("availableAt(1)", 0);
        String redundant = "A CALC is redundant if its block is reachable and its expression is available at the point "
            + "before it";
        says(redundant).load("block;calc c a plus b;goto 1;block;calc c a plus b;stop;").due("isRedundant(0)", false)
            .due("isRedundant(1)", true).due("setGoto(0,0)", 1).due("isRedundant(1)", false);
        // The paths run against the numbers.
        says(redundant).load("block;goto 2;block;calc d a plus b;stop;block;calc c a plus b;goto 1;").due("isRedundant(0)", true)
            .due("isRedundant(1)", false).due("redundantCount()", 1).due("availableAt(1)", 1);
        // A way that was cut does not count any more.
        says(redundant).load("block;calc c a plus b;branch h 1 2;block;set a 1;branch c 3 2;block;calc d a plus b;stop;block;"
            + "stop;").due("isRedundant(2)", false).due("setGoto(1,3)", 4).due("isRedundant(2)", true);
        says(redundant).load("block;stop;block;calc c a plus b;calc d a plus b;stop;").due("isRedundant(1)", false)
            .due("redundantCount()", 0);
    }

    private static void dominators() {
        String diamond = "block;branch a 1 2;block;goto 3;block;goto 3;block;stop;block;goto 3;";
        says("A block dominates a reachable block if every path from the beginning of the entry to the beginning of the second block passes through the first block")
            .load(diamond).due("dominates(0,3)", true).dueEach("dominates(%,3)", false, 1, 2, 4)
            .due("dominates(3,1)", false).due("dominates(0,4)", false).due("setGoto(0,1)", 3).due("dominates(1,3)", true)
            .due("dominates(2,3)", false).due("dominates(1,0)", false);
        says("each reachable block dominates itself").load(diamond).due("dominates(0,0)", true)
            .due("dominates(1,1)", true).due("dominates(3,3)", true).due("dominates(4,4)", false);
        String immediate = "The immediate dominator of a reachable block other than the entry is the block that "
            + "dominates it, is another block, and is dominated by all other blocks that dominate it";
        says(immediate).load(diamond).due("immediateDominator(0)", -1).due("immediateDominator(1)", 0)
            .due("immediateDominator(3)", 0).due("immediateDominator(4)", -1);
        says(immediate).load(Texts.chain(12)).due("immediateDominator(1)", 0).due("immediateDominator(2)", 1)
            .due("immediateDominator(11)", 10).due("commonDominator(10,11)", 10);
        // The paths run against the numbers.
        says(immediate).load("block;goto 5;block;stop;block;goto 1;block;goto 2;block;branch a 3 2;block;goto 4;")
            .due("immediateDominator(1)", 2).due("immediateDominator(2)", 4).due("immediateDominator(3)", 4)
            .due("immediateDominator(4)", 5).due("immediateDominator(5)", 0);
        says(immediate).load("block;goto 1;block;branch a 2 1;block;goto 0;").due("immediateDominator(0)", -1)
            .due("immediateDominator(1)", 0).due("immediateDominator(2)", 1);
    }

    private static void loops() {
        String back = "A back edge leads from a reachable block to a successor that dominates it";
        says(back).load("block;stop;block;goto 0;block;goto 2;").due("backEdges()", 0).dueEach("loopSize(%)", 0, 0, 1, 2);
        says(back).load("block;goto 0;").due("backEdges()", 1);
        says(back).load("block;branch a 1 2;block;goto 2;block;goto 1;").due("backEdges()", 0);
        says("This successor is the head of a loop").load("block;goto 1;block;branch a 2 3;block;goto 1;block;stop;")
            .due("loopSize(1)", 2).dueEach("loopSize(%)", 0, 0, 2, 3);
        String body = "The body of a loop consists of the head and of all reachable blocks from which the origin of a "
            + "back edge to this head can be reached without passing through the head, the origins included";
        says(body).load("block;goto 1;block;branch a 2 3;block;branch b 1 4;block;goto 2;block;stop;block;goto 3;")
            .due("backEdges()", 1).due("loopSize(1)", 3).dueEach("loopDepth(%)", 1, 1, 2, 3)
            .dueEach("loopDepth(%)", 0, 0, 4, 5);
        says(body).load("block;branch a 0 1;block;stop;").due("loopSize(0)", 1).due("loopDepth(1)", 0);
        says("All back edges to the same head belong to the same loop")
            .load("block;goto 1;block;branch a 2 3;block;goto 1;block;goto 1;").due("backEdges()", 2)
            .due("loopSize(1)", 3).dueEach("loopDepth(%)", 1, 1, 2, 3);
        says("The loop depth of a block is the number of loops whose bodies contain it").load(Texts.nest())
            .due("backEdges()", 6).due("loopDepth(0)", 1).due("loopDepth(4)", 5).due("loopDepth(5)", 6)
            .due("loopDepth(6)", 6).due("loopDepth(7)", 5).due("loopDepth(11)", 1).due("loopSize(5)", 2)
            .due("loopSize(4)", 4).due("loopSize(1)", 10).due("loopSize(0)", 12).due("loopSize(6)", 0);
    }

    private static void constants() {
        says("Before the entry, every variable has the constant 0").dueEach("constantAt(0,%)", 0, 0, 1, 2, 3, 4, 5, 6, 7);
        says("At the beginning of a reachable block other than the entry, a variable has a constant if it has the same constant at the ends of all its reachable predecessors")
            .load("block;branch a 1 2;block;set b 4;goto 3;block;set b 4;goto 3;block;stop;block;set b 5;goto 3;")
            .due("constantAt(3,1)", 4).due("constantAt(1,1)", 0).due("insertSet(2,1,1,5)", 2).due("constantAt(3,1)", -1)
            .due("constantAt(3,0)", 0).due("setGoto(0,2)", 3).due("constantAt(3,1)", 5);
        String entry = "for the entry, the initial constant 0 counts like the end of a further predecessor";
        says(entry).load("block;set a 4;goto 0;").due("constantAt(0,0)", -1).due("constantAt(0,1)", 0);
        says(entry).load("block;set a 0;goto 0;").due("constantAt(0,0)", 0);
        says("A SET gives its target a constant, a MOVE gives its target the constant of its source, if there is one, and a CALC computes a constant if both operands have constants")
            .load("block;set a 4;move b a;calc c a plus b;set a 999;goto 1;block;stop;").due("constantOf(0)", 4)
            .due("constantOf(1)", 4).due("constantOf(2)", 8).due("constantAt(1,0)", 999).due("constantAt(1,2)", 8);
        says("otherwise the target has no constant")
            .load("block;branch a 1 2;block;set b 1;goto 2;block;move c b;calc d b minus b;calc e a times b;"
            + "calc f b times a;calc g a plus a;stop;").dueEach("constantOf(%)", -1, 1, 2, 3, 4).due("constantOf(5)", 0)
            .due("constantOf(0)", 1);
        String most = "If these conditions have several solutions, the one with the most constants counts (it is found "
            + "by beginning with all constants undecided)";
        says(most).load("block;set a 4;goto 1;block;move b a;move a b;goto 1;").due("constantAt(1,0)", 4)
            .due("constantOf(1)", 4).due("constantOf(2)", 4).due("constantAt(1,1)", -1);
        says(most).load("block;goto 1;block;calc a a plus b;branch a 1 2;block;stop;").due("constantAt(1,0)", 0)
            .due("constantOf(0)", 0).due("constantAt(2,0)", 0);
        says(most).load("block;set b 1;goto 1;block;calc a a plus b;goto 1;").due("constantAt(1,0)", -1)
            .due("constantOf(1)", -1).due("constantAt(1,1)", 1);
        // The paths run against the numbers.
        says(most).load("block;goto 2;block;calc c a plus b;goto 3;block;set a 1;set b 2;goto 1;block;stop;")
            .due("constantAt(3,2)", 3).due("constantOf(0)", 3).due("constantAt(1,0)", 1).due("constantAt(3,1)", 2);
        String branch = "A branch does not matter for constants";
        says(branch).load("block;set a 1;branch a 1 2;block;set b 1;goto 3;block;set b 2;goto 3;block;stop;")
            .due("constantAt(3,1)", -1).due("constantAt(2,0)", 1);
        says(branch).load("block;set b 1;goto 1;block;calc a a plus b;branch a 1 2;block;stop;")
            .due("constantAt(2,0)", -1);
    }

    private static void interpreter() {
        says("A run begins with the value 0 in every variable at the entry")
            .dueEach("valueAfter(0,%)", 0, 0, 1, 2, 3, 4, 5, 6, 7).due("visits(0,0)", 1).dueEach("visits(%,0)", 0, 1, 2, 3)
            .due("valueAfter(1000,0)", 0).due("valueAfter(0,0)", 0);
        String steps = "block;set a 1;goto 1;block;show a;branch a 2 2;block;stop;";
        says("Each instruction and each exit is one step").load(steps).due("valueAfter(0,0)", 0).due("valueAfter(1,0)", 1)
            .due("visits(1,1)", 0).due("visits(1,2)", 1).due("lastShown(2)", -1).due("lastShown(3)", 1)
            .due("visits(2,3)", 0).due("visits(2,4)", 1).due("runSteps(4)", 4).due("runSteps(1000)", 5);
        says("A run ends when a block stops").load(steps).due("runEnds(1000)", true).due("setGoto(2,2)", 3)
            .due("runEnds(1000)", false).due("runSteps(1000)", 1000);
        says("this exit is a step, too").load(steps).due("runEnds(4)", false).due("runEnds(5)", true)
            .due("runSteps(5)", 5).load("block;stop;").due("runSteps(1000)", 1).due("runEnds(1)", true);
    }

    // ---- actions

    private static final String[] ACTIONS = {"insertSet(0,0,0,0)", "insertCalc(0,0,0,0,0,0)", "removeInstruction(0)",
        "setGoto(0,0)", "setBranch(0,0,0,0)", "removeDead()", "foldConstants()"};
    private static final String[] OTHERS = {"appendText(0)", "truncateText(0)", "loadProgram()", "errorCode()",
        "errorPosition()", "blockCount()", "instructionCount()", "instructionsIn(0)", "blockOf(0)", "kindOf(0)",
        "successor(0,0)", "predecessors(0)", "isReachable(0)", "distanceTo(0)", "reaches(0,0)",
        "reachingDefinitions(0,0)", "isInitialReaching(0,0)", "usesOf(0)", "onlyDefinition(3,0)", "isLiveIn(0,0)",
        "isLiveOut(0,0)", "liveBefore(0)", "isDead(0)", "deadDefinitions()", "pressure()", "interfere(0,1)",
        "expressionCount()", "isRedundant(0)", "redundantCount()", "availableAt(0)", "dominates(0,0)",
        "immediateDominator(0)", "commonDominator(0,0)", "backEdges()", "loopSize(0)", "loopDepth(0)",
        "constantAt(0,0)", "constantOf(0)", "decidedBranches()", "runSteps(1)", "runEnds(1)", "valueAfter(0,0)",
        "lastShown(0)", "visits(0,0)", "auditDifference()", "deadShare()", "meanLive()", "writeBlock(0)",
        "outputByte(0)", "saveSnapshot(0)"};
    private static final String[] REFUSED_ACTIONS = {"insertSet(2,0,0,0)", "insertSet(-1,0,0,0)", "insertSet(0,2,0,0)",
        "insertSet(0,-1,0,0)", "insertSet(0,0,8,0)", "insertSet(0,0,0,1000)", "insertCalc(2,0,0,0,0,0)",
        "insertCalc(0,2,0,0,0,0)", "insertCalc(0,0,8,0,0,0)", "insertCalc(0,0,0,8,0,0)", "insertCalc(0,0,0,0,3,0)",
        "insertCalc(0,0,0,0,0,8)", "removeInstruction(3)", "removeInstruction(-1)", "setGoto(2,0)", "setGoto(0,2)",
        "setGoto(1,-1)", "setBranch(2,0,0,0)", "setBranch(0,0,2,0)", "setBranch(0,0,0,2)", "setBranch(0,8,0,0)"};

    /** Two blocks, three instructions, two actions, a snapshot, a text, an output and a reported error. */
    private static Calls prepare(Calls calls) {
        return calls.refuse("block;goto 1;", 4, 11).load("block;set a 1;move b a;goto 1;block;show b;stop;")
            .due("insertSet(1,0,2,5)", 2).due("saveSnapshot(0)", null).due("removeInstruction(0)", 3)
            .due("writeBlock(0)", 16).refuse("block;goto 2;block;^", 1, 19).text("block;goto 0;");
    }

    private static void actions() {
        for (String action : ACTIONS) {
            says("The methods in the section \"actions\" are actions").accepts(action).due("undo()", 0)
                .dueState("undo()").dueBlock(0, "set a 5;set b 1;set d 7;goto 1;").due("instructionCount()", 8);
        }
        Calls asked = says("The methods in the section \"actions\" are actions");
        for (String other : OTHERS) {
            asked.accepts(other).dueState("undo()");
        }
        String whole = prepare(new Calls("unchanged")).everything();
        for (String action : REFUSED_ACTIONS) {
            Calls calls = prepare(says("An action that throws an exception changes nothing"));
            Calls.check(action + " throws", String.valueOf(calls.answer(action)).startsWith("throws."), true);
            Calls.check("after the refused " + action, calls.everything(), whole);
        }
        says("An action that throws an exception changes nothing").load(Texts.shows(40)).due("setGoto(0,0)", 1)
            .dueState("insertSet(0,40,0,0)").dueState("insertCalc(0,0,0,0,0,0)").due("instructionCount()", 40)
            .dueEach("kindOf(%)", 3, 0, 39).due("undo()", 0).dueState("undo()").dueNoSuch("successor(0,0)");
        says("Every action that does not throw can be undone, even if it changed nothing").load("block;branch a 0 0;")
            .due("removeDead()", 0).due("foldConstants()", 0).due("setBranch(0,0,0,0)", 1).due("undo()", 2)
            .due("undo()", 1).due("undo()", 0).dueState("undo()").due("setGoto(0,0)", 1).due("setGoto(0,0)", 1)
            .due("undo()", 1).due("successor(0,0)", 0).dueNoSuch("successor(0,1)").due("undo()", 0)
            .due("successor(0,1)", 0);
        undoDepth();
    }

    private static void undoDepth() {
        String six = "the six most recent actions can be undone, the most recent one first";
        Calls five = says(six).load(Texts.stops(1));
        for (int i = 0; i < 5; i++) {
            five.due("insertSet(0,0,0," + i + ")", 0);
        }
        five.due("undo()", 4).dueBlock(0, "set a 3;set a 2;set a 1;set a 0;stop;").due("undo()", 3);
        Calls exact = says(six).load(Texts.stops(1));
        for (int i = 0; i < 6; i++) {
            exact.due("insertSet(0,0,0," + i + ")", 0);
        }
        for (int left = 5; left >= 0; left--) {
            exact.due("undo()", left).due("instructionCount()", left);
        }
        exact.dueState("undo()").due("instructionCount()", 0);
        Calls seven = says(six).load(Texts.stops(1));
        for (int i = 0; i < 7; i++) {
            seven.due("insertSet(0,0,0," + i + ")", 0);
        }
        for (int left = 5; left >= 0; left--) {
            seven.due("undo()", left).due("instructionCount()", left + 1);
        }
        seven.dueState("undo()").dueBlock(0, "set a 0;stop;");
        // What has been undone makes room; what is done after it takes its place.
        Calls mixed = says(six).load(Texts.stops(1));
        for (int i = 0; i < 8; i++) {
            mixed.due("insertSet(0," + i + ",0," + i + ")", i);
        }
        mixed.due("undo()", 5).due("undo()", 4).due("insertSet(0,6,1,1)", 6).due("insertSet(0,7,1,2)", 7)
            .due("insertSet(0,8,1,3)", 8).dueBlock(0, "set a 0;set a 1;set a 2;set a 3;set a 4;set a 5;set b 1;set b 2;"
            + "set b 3;stop;");
        for (int left = 5; left >= 0; left--) {
            mixed.due("undo()", left).due("instructionCount()", left + 3);
        }
        mixed.dueState("undo()").dueBlock(0, "set a 0;set a 1;set a 2;stop;");
    }

    private static void parameters() {
        String listed = "If several exceptions apply to a call, the exception that is listed first is thrown";
        Calls first = says(listed);
        for (String call : new String[] {"successor(4,5)", "successor(-1,-1)", "reachingDefinitions(4,8)",
            "isInitialReaching(-1,-1)", "isLiveIn(4,-1)", "isLiveOut(4,8)", "constantAt(-1,8)", "onlyDefinition(8,2)",
            "onlyDefinition(-1,-1)", "visits(4,1001)", "visits(-1,-1)", "insertSet(4,9,9,1000)", "insertSet(-1,0,8,0)",
            "insertCalc(4,9,9,9,9,9)", "insertCalc(-1,0,0,0,3,0)", "setBranch(4,8,0,0)", "setBranch(0,8,4,0)",
            "setBranch(0,-1,0,4)", "setBranch(-1,8,-1,-1)"}) {
            first.dueBounds(call);
        }
        first.dueArgument("restoreSnapshot(2)").dueArgument("restoreSnapshot(-1)");
        says(listed).load(Texts.shows(40)).dueBounds("insertSet(1,0,0,0)").dueBounds("insertSet(1,41,8,1000)")
            .dueArgument("insertSet(0,41,0,0)").dueArgument("insertSet(0,0,8,0)").dueArgument("insertSet(0,0,0,1000)")
            .dueBounds("insertCalc(-1,0,0,0,0,0)").dueArgument("insertCalc(0,-1,0,0,0,0)")
            .dueArgument("insertCalc(0,0,-1,0,0,0)").dueArgument("insertCalc(0,0,0,-1,0,0)")
            .dueArgument("insertCalc(0,0,0,0,-1,0)").dueArgument("insertCalc(0,0,0,0,0,-1)")
            .dueState("insertSet(0,40,7,999)").dueState("insertCalc(0,40,7,7,2,7)");
        String numbers = "A parameter named block must be the number of a block, and a parameter named instruction the "
            + "number of an instruction";
        for (String call : new String[] {"instructionsIn(%)", "successor(%,0)", "predecessors(%)", "isReachable(%)",
            "distanceTo(%)", "reaches(0,%)", "reachingDefinitions(%,0)", "isInitialReaching(%,0)", "isLiveIn(%,0)",
            "isLiveOut(%,0)", "availableAt(%)", "dominates(%,0)", "immediateDominator(%)", "commonDominator(%,0)",
            "loopSize(%)", "loopDepth(%)", "constantAt(%,0)", "visits(%,0)", "insertSet(%,0,0,0)",
            "insertCalc(%,0,0,0,0,0)", "setGoto(%,0)", "setBranch(%,0,0,0)", "writeBlock(%)"}) {
            says(numbers).load(Texts.gotos(3)).accepts(call, 0, 1, 2).load(Texts.gotos(12)).accepts(call, 0, 11);
            says("otherwise IndexOutOfBoundsException is thrown").load(Texts.gotos(3))
                .refuses(BOUNDS, call, -1, 3, 12, Texts.LEAST, Texts.MOST).load(Texts.gotos(12)).refuses(BOUNDS, call, -1, 12);
        }
        for (String call : new String[] {"blockOf(%)", "kindOf(%)", "reaches(%,0)", "usesOf(%)", "onlyDefinition(%,0)",
            "liveBefore(%)", "isDead(%)", "isRedundant(%)", "constantOf(%)"}) {
            says(numbers).load(Texts.shows(3)).accepts(call, 0, 1, 2).load(Texts.shows(40)).accepts(call, 0, 39);
            says("otherwise IndexOutOfBoundsException is thrown").load(Texts.shows(3)).refuses(BOUNDS, call, -1, 3, 40,
                Texts.LEAST, Texts.MOST).load(Texts.shows(40)).refuses(BOUNDS, call, -1, 40).load(Texts.stops(1))
                .refuses(BOUNDS, call, -1, 0, 1);
        }
        String variables = "A parameter named variable, target, source, left or right must be 0 to 7, and a constant "
            + "must be 0 to 999";
        for (String call : new String[] {"reachingDefinitions(0,%)", "isInitialReaching(0,%)", "isLiveIn(0,%)",
            "isLiveOut(0,%)", "interfere(%,0)", "interfere(0,%)", "constantAt(0,%)", "valueAfter(0,%)",
            "insertSet(0,0,%,0)", "insertCalc(0,0,%,0,0,0)", "insertCalc(0,0,0,%,0,0)", "insertCalc(0,0,0,0,0,%)",
            "setBranch(0,%,0,0)"}) {
            says(variables).accepts(call, 0, 1, 2, 3, 4, 5, 6, 7);
            says("otherwise IllegalArgumentException is thrown").refuses(ARGUMENT, call, -1, 8, Texts.LEAST, Texts.MOST);
        }
        says(variables).accepts("insertSet(0,0,0,%)", 0, 1, 998, 999);
        says("otherwise IllegalArgumentException is thrown").refuses(ARGUMENT, "insertSet(0,0,0,%)", -1, 1000, Texts.LEAST,
            Texts.MOST);
    }

    private static void constantsOfTheFace() {
        says("The constants: NONE = -1: Returned where there is no such block, constant or byte")
            .due("immediateDominator(0)", DataflowLab.NONE).due("constantAt(1,0)", DataflowLab.NONE)
            .due("outputByte(0)", DataflowLab.NONE).due("loadProgram()", DataflowLab.NONE)
            .due("errorPosition()", 0).due("errorCode()", 1);
        Calls.check("NONE", DataflowLab.NONE, -1);
        String kinds = "block;set a 1;move b c;calc d e plus f;show g;stop;";
        says("The kind of an instruction that assigns a constant").load(kinds).due("kindOf(0)", DataflowLab.SET);
        says("The kind of an instruction that assigns the value of a variable").load(kinds)
            .due("kindOf(1)", DataflowLab.MOVE);
        says("The kind of an instruction that assigns the result of an operation").load(kinds)
            .due("kindOf(2)", DataflowLab.CALC);
        says("The kind of an instruction that shows the value of a variable").load(kinds)
            .due("kindOf(3)", DataflowLab.SHOW);
        says("The operator plus").load(Texts.stops(1)).due("insertCalc(0,0,0,1,0,2)", 0).dueBlock(0, "calc a b plus c;stop;");
        says("The operator minus").load(Texts.stops(1)).due("insertCalc(0,0,0,1,1,2)", 0)
            .dueBlock(0, "calc a b minus c;stop;");
        says("The operator times").load(Texts.stops(1)).due("insertCalc(0,0,0,1,2,2)", 0)
            .dueBlock(0, "calc a b times c;stop;");
        Calls.check("operators", DataflowLab.PLUS + 10 * DataflowLab.MINUS + 100 * DataflowLab.TIMES, 210);
        Calls.check("kinds", DataflowLab.SET + 10 * DataflowLab.MOVE + 100 * DataflowLab.CALC + 1000 * DataflowLab.SHOW,
            3210);
    }

    public static void main(String[] arguments) throws IOException {
        document = new Sentences();
        object();
        program();
        instructions();
        exits();
        points();
        definitions();
        liveness();
        expressions();
        dominators();
        loops();
        constants();
        interpreter();
        actions();
        parameters();
        constantsOfTheFace();
        TextTests.all(document);
        document.checkAllQuoted(Sentences.TERMS, Sentences.TERMS);
        Calls.finish("TermTests");
    }
}
