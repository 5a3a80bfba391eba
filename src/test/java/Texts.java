/** Program texts that the tests of several promises take. */
final class Texts {
    static final int LEAST = Integer.MIN_VALUE;
    static final int MOST = Integer.MAX_VALUE;

    private Texts() {
    }

    static String stops(int blocks) {
        return "block;stop;".repeat(blocks);
    }

    /** One block with so many times the same instruction. */
    static String many(int times, String instruction) {
        return "block;" + instruction.repeat(times) + "stop;";
    }

    static String shows(int instructions) {
        return many(instructions, "show a;");
    }

    /** Blocks that all go to the entry, with one instruction in the entry. */
    static String gotos(int blocks) {
        return "block;set a 1;goto 0;" + "block;goto 0;".repeat(blocks - 1);
    }

    /** Each block goes to the next one, and the last one stops. */
    static String chain(int blocks) {
        StringBuilder text = new StringBuilder();
        for (int b = 1; b < blocks; b++) {
            text.append("block;goto ").append(b).append(';');
        }
        return text.append("block;stop;").toString();
    }

    /** Six loops, each inside the one before; the heads are 0 to 5. */
    static String nest() {
        StringBuilder text = new StringBuilder();
        for (int b = 1; b <= 6; b++) {
            text.append("block;goto ").append(b).append(';');
        }
        for (int b = 6; b < 11; b++) {
            text.append("block;branch a ").append(b + 1).append(' ').append(11 - b).append(';');
        }
        return text.append("block;branch a 0 0;").toString();
    }

    /** A run of 4 + 2 * rounds steps. */
    static String countdown(int rounds) {
        return "block;set a " + rounds + ";set b 1;goto 1;block;calc a a minus b;branch a 1 2;block;stop;";
    }

    /** A loop of eight blocks, each of which shows another variable, so that all are live everywhere. */
    static String allLive() {
        StringBuilder text = new StringBuilder();
        for (int b = 0; b < 8; b++) {
            text.append("block;show ").append((char) ('a' + b)).append(";goto ").append((b + 1) % 8).append(';');
        }
        return text.toString();
    }

    /** Forty different expressions, whose operands nobody defines, and an empty block behind them. */
    static String allAvailable() {
        StringBuilder text = new StringBuilder("block;");
        for (int i = 0; i < 40; i++) {
            text.append("calc h ").append((char) ('a' + i / 7)).append(" plus ").append((char) ('a' + i % 7)).append(';');
        }
        return text.append("goto 1;block;stop;").toString();
    }
}
