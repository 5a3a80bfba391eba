import java.util.List;

/** Compares the class with the model on many made programs, texts and runs of calls, always the same ones. */
public final class ModelTests {
    private static long state = 20260119L;

    private static int pick(int bound) {
        state = state * 6364136223846793005L + 1442695040888963407L;
        return (int) ((state >>> 33) % bound);
    }

    private static final String[] NO_ARGUMENT = {"blockCount", "instructionCount", "deadDefinitions", "pressure",
        "expressionCount", "redundantCount", "backEdges", "decidedBranches", "auditDifference", "deadShare",
        "meanLive", "errorCode", "errorPosition"};
    private static final String[] OF_BLOCK = {"instructionsIn", "predecessors", "isReachable", "distanceTo",
        "availableAt", "immediateDominator", "loopSize", "loopDepth", "writeBlock"};
    private static final String[] OF_BLOCK_AND_VARIABLE = {"reachingDefinitions", "isInitialReaching", "isLiveIn",
        "isLiveOut", "constantAt"};
    private static final String[] OF_TWO_BLOCKS = {"dominates", "commonDominator"};
    private static final String[] OF_INSTRUCTION = {"blockOf", "kindOf", "usesOf", "liveBefore", "isDead",
        "isRedundant", "constantOf"};
    private static final String[] OF_STEPS = {"runSteps", "runEnds", "lastShown"};
    private static final String[] ACTIONS = {"insertSet", "insertCalc", "removeInstruction", "setGoto", "setBranch",
        "removeDead", "foldConstants", "undo", "saveSnapshot", "restoreSnapshot"};

    private static String one(String[] names) {
        return names[pick(names.length)];
    }

    /** Mostly 0 to the bound, less one, now and then beyond. */
    private static int near(int bound) {
        return pick(25) == 0 ? pick(bound + 4) - 2 : pick(Math.max(bound, 1));
    }

    // ---- made programs

    private static int variables = 8;

    private static String letter() {
        return Model.letter(pick(variables));
    }

    private static String instruction() {
        int kind = pick(9);
        if (kind < 2) {
            return "set " + letter() + " " + (pick(3) == 0 ? pick(1000) : pick(3));
        }
        if (kind < 4) {
            return "move " + letter() + " " + letter();
        }
        if (kind < 8) {
            return "calc " + letter() + " " + letter() + " " + one(new String[] {"plus", "minus", "times"}) + " "
                + letter();
        }
        return "show " + letter();
    }

    private static String exit(int blocks) {
        int kind = pick(8);
        if (kind == 0) {
            return "stop";
        }
        return kind < 4 ? "goto " + pick(blocks) : "branch " + letter() + " " + pick(blocks) + " " + pick(blocks);
    }

    private static String program() {
        int blocks = 1 + (pick(4) == 0 ? pick(12) : pick(6));
        int most = pick(3) == 0 ? 40 : 1 + pick(15);
        variables = 2 + pick(7);
        StringBuilder text = new StringBuilder();
        for (int b = 0; b < blocks; b++) {
            text.append("block;");
            for (int i = pick(2 + 2 * most / blocks); i > 0 && most > 0 && text.length() < 560; i--) {
                text.append(instruction()).append(';');
                most--;
            }
            text.append(exit(blocks)).append(';');
        }
        return text.toString();
    }

    // ---- texts

    private static final String[] PIECES = {"block", "set", "move", "calc", "show", "stop", "goto", "branch", "plus",
        "minus", "times", ";", " ", "\n", "a", "h", "i", "0", "7", "11", "12", "999", "1000", "00000000005",
        "99999999999999999999", "A", "-", "\t", "\0", "\u00e9", "\u0080", "blocks", "aa", ";;", "block;stop;",
        "set a 1;", "move h g;", "calc a b times c;", "show b;", "4294967296", "goto 3;", "branch c 0 11;"};

    private static String spoil(String text) {
        int from = pick(text.length() + 1);
        switch (pick(5)) {
            case 0:
                return text.substring(0, from);
            case 1:
                return text.substring(0, from) + text.substring(Math.min(text.length(), from + 1 + pick(3)));
            case 2:
                return text.substring(0, from) + one(PIECES) + text.substring(Math.min(text.length(), from + pick(3)));
            case 3:
                return text.substring(0, from) + one(PIECES) + text.substring(from);
            default:
                return text.replaceAll("(?<=[;0-9])(?=[a-z])", one(new String[] {" ", "\n", "  \n", ""}));
        }
    }

    private static String crowded() {
        StringBuilder text = new StringBuilder();
        int blocks = 10 + pick(4);
        for (int b = 0; b < blocks; b++) {
            text.append("block;");
            for (int i = pick(9); i > 0; i--) {
                text.append("show a;");
            }
            text.append("stop;");
        }
        return text.toString();
    }

    private static void compareTexts() {
        for (int i = 0; i < 40000; i++) {
            String text = pick(8) == 0 ? crowded() : program();
            for (int k = pick(4); k > 0; k--) {
                text = spoil(text);
            }
            if (text.length() > 700) {
                text = text.substring(0, 700);
            }
            Calls calls = new Calls("text " + i).text(text);
            Model model = new Model();
            model.text = text;
            Calls.check("loadProgram of [" + text + "]", calls.lab.loadProgram(), model.answer("loadProgram"));
            Calls.check("errorCode of [" + text + "]", calls.lab.errorCode(), model.errorCode);
            Calls.check("errorPosition of [" + text + "]", calls.lab.errorPosition(), model.errorPosition);
            comparePrograms("after [" + text + "]", calls, model);
        }
    }

    private static void comparePrograms(String title, Calls calls, Model model) {
        Calls.check(title + " blockCount", calls.lab.blockCount(), model.blocks.size());
        for (int b = 0; b < model.blocks.size(); b++) {
            int length = calls.lab.writeBlock(b);
            String want = model.write(b);
            model.output = want;
            Calls.check(title + " length of block " + b, length, want.length());
            for (int k = 0; k < 3; k++) {
                int index = pick(want.length());
                Calls.check(title + " byte of block " + b, calls.lab.outputByte(index), (int) want.charAt(index));
            }
        }
    }

    // ---- runs of calls

    private static void compare(String title, Calls calls, Model model, String name, int... arguments) {
        String before = model.whole();
        Object got = Calls.answer(calls.lab, name, arguments);
        Object want = model.answer(name, arguments);
        if (want instanceof Character c) {
            want = (int) c;
        }
        Calls.check(title + ": " + name + java.util.Arrays.toString(arguments) + " on " + before, got, want);
    }

    private static void act(String title, Calls calls, Model model) {
        String name = one(ACTIONS);
        int blocks = model.blocks.size();
        int block = near(blocks);
        int size = block >= 0 && block < blocks ? model.blocks.get(block).steps.size() : 0;
        switch (name) {
            case "insertSet":
                compare(title, calls, model, name, block, near(size + 1), near(8), near(1000));
                break;
            case "insertCalc":
                compare(title, calls, model, name, block, near(size + 1), near(8), near(8), near(3), near(8));
                break;
            case "removeInstruction":
                compare(title, calls, model, name, near(model.count()));
                break;
            case "setGoto":
                compare(title, calls, model, name, block, near(blocks));
                break;
            case "setBranch":
                compare(title, calls, model, name, block, near(8), near(blocks), near(blocks));
                break;
            case "saveSnapshot":
            case "restoreSnapshot":
                if (pick(3) == 0) {
                    compare(title, calls, model, name, near(2));
                }
                break;
            default:
                compare(title, calls, model, name);
                break;
        }
    }

    private static void ask(String title, Calls calls, Model model) {
        int blocks = model.blocks.size();
        int count = model.count();
        switch (pick(11)) {
            case 0:
                compare(title, calls, model, one(NO_ARGUMENT));
                break;
            case 1:
                compare(title, calls, model, one(OF_BLOCK), near(blocks));
                break;
            case 2:
                compare(title, calls, model, one(OF_BLOCK_AND_VARIABLE), near(blocks), near(8));
                break;
            case 3:
                compare(title, calls, model, one(OF_TWO_BLOCKS), near(blocks), near(blocks));
                break;
            case 4:
                compare(title, calls, model, one(OF_INSTRUCTION), near(count));
                break;
            case 5:
                compare(title, calls, model, "reaches", near(count), near(blocks));
                break;
            case 6:
                compare(title, calls, model, "onlyDefinition", near(count), near(2));
                break;
            case 7:
                compare(title, calls, model, "interfere", near(8), near(8));
                break;
            case 8:
                compare(title, calls, model, one(OF_STEPS), near(pick(2) == 0 ? 1001 : 60));
                break;
            case 9:
                compare(title, calls, model, "valueAfter", near(pick(2) == 0 ? 1001 : 60), near(8));
                break;
            default:
                if (pick(2) == 0) {
                    compare(title, calls, model, "visits", near(blocks), near(pick(2) == 0 ? 1001 : 60));
                } else if (pick(2) == 0) {
                    compare(title, calls, model, "successor", near(blocks), near(2));
                } else {
                    compare(title, calls, model, "outputByte", near(model.output.length()));
                }
                break;
        }
    }

    private static void load(Calls calls, Model model) {
        String text = program();
        calls.text(text);
        model.text = text;
        Calls.check("loadProgram of [" + text + "]", calls.lab.loadProgram(), model.answer("loadProgram"));
    }

    private static void compareRuns(int runs) {
        for (int run = 0; run < runs; run++) {
            Calls calls = new Calls("run " + run);
            Model model = new Model();
            if (run % 5 != 0) {
                load(calls, model);
            }
            // A text takes up to 177 calls, so that the object stays below its 512.
            for (int i = 0; i < 300; i++) {
                if (pick(8) == 0) {
                    act("run " + run, calls, model);
                } else {
                    ask("run " + run, calls, model);
                }
            }
        }
    }

    /** Every analysis of every block, instruction and variable of many programs. */
    private static void compareAnalyses(int programs) {
        for (int i = 0; i < programs; i++) {
            String text = program();
            Model model = new Model();
            model.text = text;
            model.answer("loadProgram");
            for (String name : NO_ARGUMENT) {
                compare("program " + i, fresh(text), model, name);
            }
            for (int b = 0; b < model.blocks.size(); b++) {
                Calls calls = fresh(text);
                for (String name : OF_BLOCK) {
                    compare("program " + i, calls, model, name, b);
                }
                for (int v = 0; v < 8; v++) {
                    for (String name : OF_BLOCK_AND_VARIABLE) {
                        compare("program " + i, calls, model, name, b, v);
                    }
                }
            }
            for (int k = 0; k < model.count(); k++) {
                Calls calls = fresh(text);
                for (String name : OF_INSTRUCTION) {
                    compare("program " + i, calls, model, name, k);
                }
                compare("program " + i, calls, model, "onlyDefinition", k, 0);
                compare("program " + i, calls, model, "onlyDefinition", k, 1);
                for (int b = 0; b < model.blocks.size(); b++) {
                    compare("program " + i, calls, model, "reaches", k, b);
                }
            }
        }
    }

    private static Calls fresh(String text) {
        Calls calls = new Calls("fresh").text(text);
        calls.lab.loadProgram();
        return calls;
    }

    public static void main(String[] arguments) {
        int scale = arguments.length > 0 ? Integer.parseInt(arguments[0]) : 1;
        compareTexts();
        compareAnalyses(150 * scale);
        compareRuns(1500 * scale);
        Calls.finish("ModelTests");
    }
}
