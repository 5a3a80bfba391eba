/** Each sentence of the document's terms on program texts and their errors, at the edges that it names. */
final class TextTests {
    private static Sentences document;

    private TextTests() {
    }

    private static Calls says(String sentence) {
        return document.says(Sentences.TERMS, sentence);
    }

    private static void bytes() {
        String ascii = "A program is an ASCII text of at most 700 bytes, collected in the text buffer";
        String longest = "block;set a " + "0".repeat(681) + "7;stop;";
        says(ascii).load(longest).dueProgram("set a 7;stop;").text(longest).due("truncateText(700)", 700)
            .dueState("appendText(538976288)").due("loadProgram()", 1);
        Calls.check("the longest text", longest.length(), 700);
        says(ascii).text("block;stop;").due("appendText(538976288)", 15).due("loadProgram()", 1);
        for (int one = 128; one < 256; one++) {
            says(ascii).refuse("block;st" + (char) one + "op;", 1, 6).refuse("block;show a;" + (char) one, 1, 13);
        }
    }

    private static void tokens() {
        String tokens = "Its tokens are words (maximal sequences of the letters a to z), numbers (maximal sequences of the "
            + "digits 0 to 9, of any length) and semicolons";
        says(tokens).load("block;set a5;calc b a plus b;goto0;").dueProgram("set a 5;calc b a plus b;goto 0;");
        says(tokens).load("block;branch h1 0;block;stop;").dueProgram("branch h 1 0;", "stop;");
        says(tokens).load("block;set a 0123;set b 456;set c 789;goto 00;")
            .dueProgram("set a 123;set b 456;set c 789;goto 0;");
        says(tokens).load("block;goto " + "0".repeat(600) + ";").dueProgram("goto 0;");
        says(tokens).load("block;set a " + "0".repeat(600) + "999;stop;").dueProgram("set a 999;stop;");
        says(tokens).refuseAt("block;set a ^" + "9".repeat(600) + ";stop;", 2);
        says(tokens).refuseAt("block;^seta 5;stop;", 1).refuseAt("^blockblock;stop;", 1).refuseAt("^blocka;stop;", 1)
            .refuseAt("block;calc a b ^plusc;stop;", 1).refuseAt("block;show ^az;stop;", 1).refuseAt("block;^sto p;", 1)
            .refuseAt("block;^gotoz 0;", 1).refuseAt("block;set a 1 ^2;stop;", 1).refuseAt("block;branch a 0 00^a;", 1);
        everyByteBehindAToken(tokens);
        String blanks = "Spaces (byte 32) and line feeds (byte 10) may precede, separate and follow tokens";
        says(blanks).load(" \n block \n ; \n set \n a \n 5 \n ; \n stop \n ; \n ").dueProgram("set a 5;stop;");
        says(blanks).load("\nblock;stop;").load("block;stop;\n").load("block;stop; ").load(" block;stop;")
            .load("block;show\na;stop;");
        for (int one = 0; one < 256; one++) {
            boolean blank = one == 32 || one == 10;
            String sign = String.valueOf((char) one);
            Calls calls = says(blanks);
            if (blank) {
                calls.load("block;stop;" + sign).load(sign + "block;stop;").load("block" + sign + ";stop;");
            } else {
                calls.refuse("block;stop;" + sign, 1, 11).refuse(sign + ";block;stop;", 1, 0);
            }
        }
    }

    /** What a byte does at once behind a variable and behind a number. */
    private static void everyByteBehindAToken(String tokens) {
        for (int one = 0; one < 256; one++) {
            String sign = String.valueOf((char) one);
            boolean blank = one == 32 || one == 10;
            boolean digit = one >= '0' && one <= '9';
            boolean letter = one >= 'a' && one <= 'z';
            String shown = "block;show a" + sign + ";stop;";
            String set = "block;set a 5" + sign + ";stop;";
            Calls calls = says(tokens);
            if (blank) {
                calls.load(shown).load(set);
            } else if (digit) {
                calls.refuse(shown, 1, 12).load(set).due("constantOf(0)", 50 + one - '0');
            } else if (letter) {
                calls.refuse(shown, 1, 11).refuse(set, 1, 13);
            } else {
                calls.refuse(shown, 1, one == ';' ? 13 : 12).refuse(set, 1, one == ';' ? 14 : 13);
            }
        }
    }

    // ---- the grammar

    private static final String INSTRUCTION = " set move calc show ";
    private static final String INSIDE = INSTRUCTION + "stop goto branch ";
    private static final String VARIABLE = " a b c d e f g h ";
    private static final String NUMBER = " 0 00007 11 12 999 1000 ";
    private static final String EVERYTHING = "block ;" + INSIDE + "plus minus times" + VARIABLE + "i z aa ab stops"
        + NUMBER + "@ A - \u00e9";

    // The text read so far, the tokens that may follow, and the largest number among them.
    private static final Object[][] PLACES = {
        {"", " block ", 0}, {"block", " ; ", 0}, {"block ;", INSIDE, 0}, {"block ; show a ;", INSIDE, 0},
        {"block ; set", VARIABLE, 0}, {"block ; set h", NUMBER, 999}, {"block ; set h 1", " ; ", 0},
        {"block ; move", VARIABLE, 0}, {"block ; move a", VARIABLE, 0}, {"block ; move a b", " ; ", 0},
        {"block ; calc", VARIABLE, 0}, {"block ; calc a", VARIABLE, 0}, {"block ; calc a b", " plus minus times ", 0},
        {"block ; calc a b times", VARIABLE, 0}, {"block ; calc a b plus c", " ; ", 0}, {"block ; show", VARIABLE, 0},
        {"block ; show h", " ; ", 0}, {"block ; stop", " ; ", 0}, {"block ; goto", NUMBER, 11},
        {"block ; goto 0", " ; ", 0}, {"block ; branch", VARIABLE, 0}, {"block ; branch h", NUMBER, 11},
        {"block ; branch h 0", NUMBER, 11}, {"block ; branch h 0 0", " ; ", 0}, {"block ; stop ;", " block ", 0},
        {"block ; goto 0 ; block", " ; ", 0}, {"block ; stop ; block ;", INSIDE, 0}};

    /** Each word of the grammar with one letter changed, added or left out is another word. */
    private static void otherWords() {
        String[][] words = {{"", "block", ";stop;"}, {"block;", "set", " a 1;stop;"}, {"block;", "move", " a b;stop;"},
            {"block;", "calc", " a b plus c;stop;"}, {"block;", "show", " a;stop;"}, {"block;", "stop", ";"},
            {"block;", "goto", " 0;"}, {"block;", "branch", " a 0 0;"}, {"block;calc a b ", "plus", " c;stop;"},
            {"block;calc a b ", "minus", " c;stop;"}, {"block;calc a b ", "times", " c;stop;"}};
        for (String[] one : words) {
            Calls calls = says("The grammar, with { X } for any number of repetitions of X:").load(one[0] + one[1] + one[2]);
            for (int i = 0; i < one[1].length(); i++) {
                String before = one[0] + "^" + one[1].substring(0, i);
                String after = one[1].substring(i + 1) + one[2];
                calls.refuseAt(before + "x" + after, 1).refuseAt(before + after, 1);
            }
            calls.refuseAt(one[0] + "^" + one[1] + "s" + one[2], 1).refuseAt(one[0] + "^s" + one[1] + one[2], 1);
        }
    }

    private static void everyTokenAtEveryPlace() {
        for (Object[] place : PLACES) {
            String before = (String) place[0];
            Calls calls = says("The grammar, with { X } for any number of repetitions of X:");
            if (before.equals("block ; stop ;")) {
                calls.load(before);
            } else {
                calls.refuse(before, 1, before.length()).refuse(before + " \n", 1, before.length() + 2);
            }
            for (String token : EVERYTHING.trim().split(" +")) {
                nextToken(before, token, ((String) place[1]).contains(" " + token + " "), (int) place[2]);
            }
        }
    }

    private static void nextToken(String before, String token, boolean allowed, int largest) {
        Calls calls = says("The grammar, with { X } for any number of repetitions of X:");
        String text = before + " " + token;
        boolean number = token.charAt(0) >= '0' && token.charAt(0) <= '9';
        boolean ends = token.equals(";") && before.matches(".*(stop|goto 0|branch h 0 0)");
        if (!allowed) {
            calls.refuse(text, 1, before.length() + 1);
        } else if (number && Integer.parseInt(token) > largest) {
            calls.refuse(text, 2, before.length() + 1);
        } else if (ends) {
            calls.load(text);
        } else {
            calls.refuse(text, 1, text.length());
        }
    }

    private static void grammar() {
        everyTokenAtEveryPlace();
        otherWords();
        says("program = block { block }").load(Texts.stops(1)).load(Texts.stops(2)).load(Texts.stops(12))
            .due("blockCount()", 12).refuse("", 1, 0).refuse(" ", 1, 1).refuseAt("^stop;", 1).refuseAt("block;stop;^;", 1);
        says("block = \"block\" \";\" { instruction \";\" } exit \";\"").load("block;stop;").due("instructionCount()", 0)
            .load("block;show a;stop;").due("instructionCount()", 1).load(Texts.shows(40)).due("instructionCount()", 40)
            .refuseAt("block ^stop;", 1).refuseAt("block;show a ^stop;", 1).refuseAt("block;stop^", 1)
            .refuseAt("block;stop;^stop;", 1).refuseAt("block;^;stop;", 1);
        says("instruction = \"set\" variable constant | \"move\" variable variable | \"calc\" variable variable operator variable | \"show\" variable")
            .load("block;set a 0;move b c;calc d e minus f;show g;stop;")
            .dueProgram("set a 0;move b c;calc d e minus f;show g;stop;").refuseAt("block;set ^0 a;stop;", 1)
            .refuseAt("block;move a b ^c;stop;", 1).refuseAt("block;calc a ^plus b;stop;", 1)
            .refuseAt("block;show a ^a;stop;", 1).refuseAt("block;set a^;stop;", 1);
        says("operator = \"plus\" | \"minus\" | \"times\"").load("block;calc a a plus a;calc b b minus b;calc c c times c;stop;")
            .dueProgram("calc a a plus a;calc b b minus b;calc c c times c;stop;").refuseAt("block;calc a a ^plu a;stop;", 1)
            .refuseAt("block;calc a a ^minuss a;stop;", 1).refuseAt("block;calc a a ^a a;stop;", 1);
        says("exit = \"stop\" | \"goto\" number | \"branch\" variable number number")
            .load("block;goto 1;block;branch h 2 0;block;stop;").dueProgram("goto 1;", "branch h 2 0;", "stop;")
            .refuseAt("block;stop ^0;", 1).refuseAt("block;goto ^;", 1).refuseAt("block;goto 0 ^0;", 1)
            .refuseAt("block;branch ^0 0 0;", 1).refuseAt("block;branch a 0^;", 1).refuseAt("block;branch a 0 0 ^0;", 1);
        for (char letter = 'a'; letter <= 'z'; letter++) {
            Calls calls = says("A variable is a word of one letter, a to h");
            if (letter <= 'h') {
                calls.load("block;show " + letter + ";stop;").dueProgram("show " + letter + ";stop;");
            } else {
                calls.refuseAt("block;show ^" + letter + ";stop;", 1);
            }
            calls.refuseAt("block;show ^" + letter + "a;stop;", 1).refuseAt("block;show ^a" + letter + ";stop;", 1);
        }
        says("The first variable of move and calc is the target").load("block;set b 7;set c 2;move a b;calc d b minus c;stop;")
            .due("valueAfter(4,0)", 7).due("valueAfter(4,3)", 5).due("valueAfter(4,1)", 7).due("valueAfter(4,2)", 2);
        says("The numbers of an exit are block numbers").load("block;goto 1;block;branch a 0 2;block;goto 2;")
            .due("successor(0,0)", 1).due("successor(1,0)", 0).due("successor(1,1)", 2).due("successor(2,0)", 2);
        says("they may name blocks that are told later").load("block;branch a 10 11;" + Texts.stops(11))
            .due("successor(0,0)", 10).due("successor(0,1)", 11).load("block;goto 1;block;stop;").due("successor(0,0)", 1);
    }

    // ---- errors

    private static void errors() {
        says("The parser reads tokens from left to right and stops at the first wrong token")
            .refuseAt("block;set a ^1000;@;goto 99;", 2).refuseAt("block;set a 1 ^x 1000;goto 12;", 1)
            .refuseAt("block;goto 7;block;goto ^12;", 2).refuseAt("block;goto 7;block;set ^i 1;", 1)
            .refuseAt(Texts.stops(12) + "^block;@", 3).refuseAt(Texts.stops(12) + "^@block;", 1)
            .refuseAt("block;set a ^1000", 2).refuseAt("block;branch ^x 99 99;", 1).refuseAt("block;branch a ^12 x;", 2);
        says("The error position is the index of the first byte of that token, or the length of the text if the text ends too early")
            .refuseAt("block;  ^blocks;stop;", 1).refuseAt("block;set a \n ^00001000;stop;", 2).refuseAt("^@", 1)
            .refuseAt("^", 1).refuseAt(" \n ^", 1).refuseAt("block^", 1).refuseAt("block;stop^", 1)
            .refuseAt("block;stop \n^", 1).refuseAt("block;set a 1;^", 1).refuseAt("block;stop;block; ^", 1)
            .refuseAt("block;set a 1" + " ".repeat(686) + ";^", 1);
        String lowest = "The error code is the lowest one that applies: 1 if the token is not allowed at this point, if a "
            + "byte belongs to no token, or if the text ends too early";
        String twelve = Texts.stops(12);
        String forty = "block;" + "show a;".repeat(40);
        // Numbers that are too large and words that come too often, where they are not allowed at all.
        says(lowest).refuseAt("block;^1000;", 1).refuseAt("block;set ^1000 a;", 1).refuseAt("block;goto 0 ^12;", 1)
            .refuseAt("block;set a 999 ^1000;", 1).refuseAt(Texts.stops(11) + "block;^block;stop;", 1)
            .refuseAt(Texts.stops(11) + "block;stop ^block;", 1).refuseAt(twelve + "^set a 1;", 1)
            .refuseAt(twelve + "^blocks;", 1).refuseAt(twelve + "^stop;", 1).refuseAt(twelve + "^12;", 1)
            .refuseAt("block;" + "show a;".repeat(39) + "show a ^show a;stop;", 1).refuseAt(forty + "^shows a;", 1)
            .refuseAt(forty + "^block;", 1).refuseAt(forty + "stop;^show a;", 1).refuseAt(forty + "stop ^set", 1)
            .refuseAt(forty + "stop;block ^set a 1;", 1).refuseAt(forty + "^", 1).refuseAt(forty + "^;", 1);
        says(lowest).refuseAt("^Block;stop;", 1).refuseAt("block;set a ^-1;stop;", 1).refuseAt("block;set a 9^.5;stop;", 1)
            .refuseAt("block;goto 1^,2;", 1).refuseAt("block^:stop;", 1).refuseAt("block;stop^", 1).refuseAt("block;^", 1);
        says("2 if a constant is above 999, or a block number above 11").load("block;set a 999;stop;")
            .refuseAt("block;set a ^1000;stop;", 2).refuseAt("block;set a ^1001;stop;", 2)
            .refuseAt("block;set a ^9999;stop;", 2).refuseAt("block;set a ^2147483648;stop;", 2)
            .refuseAt("block;set a ^4294967297;stop;", 2).refuseAt("block;set a ^18446744073709551617;stop;", 2)
            .refuseAt("block;set a ^0000000001000;stop;", 2).refuseAt("block;set a ^1" + "0".repeat(600) + ";stop;", 2);
        says("2 if a constant is above 999, or a block number above 11").load("block;goto 11;" + Texts.stops(11))
            .refuseAt("block;goto ^12;" + Texts.stops(11), 2).refuseAt("block;goto ^99;", 2).refuseAt("block;goto ^100;", 2)
            .refuseAt("block;branch a ^12 0;", 2).refuseAt("block;branch a 0 ^12;", 2).refuseAt("block;branch a 11 ^12;", 2)
            .refuseAt("block;goto ^4294967296;", 2).refuseAt("block;goto ^012;", 2).refuseAt("block;goto ^1000;", 2)
            .refuseAt("block;goto ^1011;", 2).refuseAt("block;branch a ^4294967296 0;", 2);
        String third = "3 for the word \"block\" of a 13th block and for the first word of a 41st instruction";
        says(third).load(twelve).refuseAt(twelve + "^block;stop;", 3).refuseAt(twelve + "^block", 3)
            .refuseAt(twelve + " \n ^block;stop;", 3).refuseAt(Texts.chain(12) + "^block;goto 99;", 3);
        says(third).load(forty + "stop;").refuseAt(forty + "^set", 3).refuseAt(forty + "^move", 3)
            .refuseAt(forty + "^calc", 3).refuseAt(forty + "^show a;stop;", 3).refuseAt(forty + " ^show 1000;", 3)
            .refuseAt(forty + "stop;block;goto 0;block;^set a 1;stop;", 3);
        missingBlocks();
    }

    private static void missingBlocks() {
        String missing = "If the text has no other error, but an exit names a block that the program does not have, the "
            + "error code is 4, and the error position is that of the first such number";
        says(missing).refuseAt("block;goto ^1;", 4).refuseAt("block;branch a ^1 0;", 4).refuseAt("block;branch a 0 ^1;", 4)
            .refuseAt("block;branch a ^1 1;", 4).refuseAt("block;goto ^11;", 4).refuseAt("block;branch a ^11 11;", 4);
        says(missing).refuseAt("block;goto 1;block;goto ^2;", 4).refuseAt("block;goto ^2;block;goto 3;", 4)
            .refuseAt("block;stop;block;branch a 1 \n ^0002;", 4).refuseAt("block;branch a 0 ^3;block;goto 2;block;goto 9;", 4);
        says(missing).load("block;goto 1;block;stop;").load("block;goto 0;").load(Texts.stops(10) + "block;goto 10;")
            .refuseAt(Texts.stops(10) + "block;goto ^11;", 4).refuseAt("block;goto ^9;" + Texts.stops(8), 4)
            .load("block;goto 8;" + Texts.stops(8));
        // Another error counts, wherever it stands.
        says(missing).refuseAt("block;goto 1^", 1).refuseAt("block;goto 1;^@", 1).refuseAt("block;goto 5;block;set a ^1000;", 2)
            .refuseAt("block;goto 9;block;" + "show a;".repeat(40) + "^show a;", 3);
        // What an earlier text named does not count.
        says(missing).refuseAt("block;stop;block;goto ^2;", 4).load("block;stop;block;stop;").refuseAt("block;goto ^1;", 4)
            .load("block;stop;").refuseAt("block;stop;block;branch a 0 ^2;", 4).load("block;stop;block;goto 1;");
    }

    static void all(Sentences sentences) {
        document = sentences;
        bytes();
        tokens();
        grammar();
        errors();
    }
}
