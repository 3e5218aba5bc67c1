/** The edges of the promises 2 (feed), 3 (load) and 4 (errorPosition), and of the section 5 of the Description. */
public final class TextEdgeTest {
    private static final int NONE = -1;
    private static final String HEAD = "bench 9 1 1 1;";
    private static final String ONE = HEAD + "input 0;";
    /** A whole text in 20 bytes. */
    private static final String SHORT = "bench4 1 1 1;input0;";

    public static void main(String[] args) {
        placesOfBytes();
        fullBuffer();
        bufferTurns();
        lengths();
        firstBytesOnly();
        countsOfNets();
        headRanges();
        inputRanges();
        gateRanges();
        purseRanges();
        numbersArrive();
        greatNumbers();
        ascendingTimes();
        keywordsTooMany();
        smallestCode();
        firstError();
        letters();
        digits();
        separators();
        maximalRuns();
        endsTooEarly();
        notAllowed();
        positions();
        Due.close("TextEdgeTest");
    }

    private static void taken(String text, int nets) {
        GlitchCourt x = new GlitchCourt();
        Due.equal("3 load of " + text, Due.load(x, text), nets);
        Due.equal("4 no error in " + text, x.errorPosition(), NONE);
    }

    private static void taken(String text) {
        GlitchCourt x = new GlitchCourt();
        Due.equal("3 load takes " + text, Due.load(x, text) >= 1, true);
        Due.equal("4 no error in " + text, x.errorPosition(), NONE);
    }

    private static void refused(String text, int code, int position) {
        GlitchCourt x = new GlitchCourt();
        Due.equal("3 load of " + text, Due.load(x, text), -10 - code);
        Due.equal("4 position in " + text, x.errorPosition(), position);
    }

    /** A number between the two parts is taken from least to most, and refused on both sides. */
    private static void range(String before, int least, int most, String after) {
        if (least == 0) {
            refused(before + "-1" + after, 1, before.length());
        } else {
            refused(before + (least - 1) + after, 2, before.length());
        }
        taken(before + least + after);
        taken(before + most + after);
        taken(before + "0000000000000000000000" + most + after);
        refused(before + (most + 1) + after, 2, before.length());
        refused(before + "x" + after, 1, before.length());
    }

    // Promise 2: the buffer

    /** Each byte stands in its place, also one with the highest bit. */
    private static void placesOfBytes() {
        for (int place = 0; place < 40; place++) {
            for (int value : new int[] {0, 'A', 0x7f, 0x80, 0xff}) {
                GlitchCourt x = new GlitchCourt();
                for (int half = 0; half < 40; half += 20) {
                    int[] words = {0x20202020, 0x20202020, 0x20202020, 0x20202020, 0x20202020};
                    if (place / 20 == half / 20) {
                        int shift = 24 - place % 4 * 8;
                        words[place % 20 / 4] += value - ' ' << shift;
                    }
                    Due.equal("2 feed", x.feed(words[0], words[1], words[2], words[3], words[4]), half + 20);
                }
                Due.equal("2 byte " + value + " at " + place, x.load(40), -11);
                Due.equal("2 its place", x.errorPosition(), place);
            }
        }
    }

    /** 600 bytes are taken, the last of them counts, and nothing more goes in. */
    private static void fullBuffer() {
        String full = "bench 9 1 1 1;input 0" + " ".repeat(578) + ";";
        GlitchCourt x = new GlitchCourt();
        for (int[] f : Due.feeds(full.substring(0, 580).getBytes())) {
            x.feed(f[0], f[1], f[2], f[3], f[4]);
        }
        Due.equal("2 up to 600", x.feed(0x20202020, 0x20202020, 0x20202020, 0x20202020, 0x2020203b), 600);
        Due.equal("2 no more than 600", x.feed(0x41414141, 0x41414141, 0x41414141, 0x41414141, 0x41414141), NONE);
        Due.equal("2 nor again", x.feed(0x41414141, 0x41414141, 0x41414141, 0x41414141, 0x41414141), NONE);
        Due.illegal("3 length 601", () -> x.load(601));
        Due.equal("2 nothing is appended", x.load(600), 1);
        Due.feed(x, full);
        Due.equal("3 all but the last byte", x.load(599), -11);
        Due.equal("4 position 599", x.errorPosition(), 599);
    }

    /** However the buffer is emptied, it begins anew. */
    private static void bufferTurns() {
        GlitchCourt x = new GlitchCourt();
        Due.feed(x, " ".repeat(600));
        Due.equal("4 at the very end", x.load(600), -11);
        Due.equal("4 position 600", x.errorPosition(), 600);
        Due.equal("2 empty after an error of load", x.feed(0, 0, 0, 0, 0), 20);
        Due.feed(x, " ".repeat(580));
        Due.equal("2 full again", x.feed(0, 0, 0, 0, 0), NONE);
        Due.equal("44 of the full buffer", x.query(200), GlitchCourt.HIDDEN - 1);
        Due.equal("2 empty after an error of query", x.feed(0, 0, 0, 0, 0), 20);
        x.load(0);
        Due.feed(x, "many net=0" + " ".repeat(590));
        Due.equal("44 of the first bytes", x.query(10), 1);
        Due.equal("2 empty after query", x.feed(0, 0, 0, 0, 0), 20);
        x.load(0);
        Due.feed(x, SHORT + " ".repeat(580));
        Due.equal("3 of the full buffer", x.load(20), 1);
        Due.equal("2 empty after load", x.feed(0, 0, 0, 0, 0), 20);
    }

    // Promise 3: what is read

    private static void lengths() {
        GlitchCourt x = new GlitchCourt();
        for (int length : Due.outside(0, 0)) {
            Due.illegal("3 length " + length + " of an empty buffer", () -> x.load(length));
        }
        Due.equal("3 an empty text", x.load(0), -11);
        Due.equal("4 at 0", x.errorPosition(), 0);
        Due.feed(x, SHORT);
        for (int length : Due.outside(0, 20)) {
            Due.illegal("3 length " + length + " of 20", () -> x.load(length));
        }
        Due.equal("3 all 20", x.load(20), 1);
        Due.feed(x, SHORT);
        Due.equal("3 nothing of 20", x.load(0), -11);
        Due.illegal("3 that empties the buffer, too", () -> x.load(1));
        Due.feed(x, SHORT);
        Due.equal("3 19 of 20", x.load(19), -11);
        Due.equal("4 at 19", x.errorPosition(), 19);
    }

    private static void firstBytesOnly() {
        GlitchCourt x = new GlitchCourt();
        Due.feed(x, SHORT + "gate not 0 1 1 1;");
        Due.equal("3 the first 20 of 40", x.load(20), 1);
        Due.illegal("3 the others are gone", () -> x.load(1));
        Due.feed(x, SHORT + "gate not 0 1 1 1;");
        Due.equal("3 the first 37 of 40", x.load(37), 2);
        Due.feed(x, ONE + "gates");
        Due.equal("3 a word that is cut off", x.load(26), -11);
        Due.equal("4 behind it", x.errorPosition(), 26);
        Due.feed(x, "bench 9999");
        Due.equal("3 a number that is cut off", x.load(7), -11);
        Due.equal("4 behind the 9", x.errorPosition(), 7);
    }

    private static void countsOfNets() {
        String inputs = HEAD;
        for (int i = 1; i <= 4; i++) {
            inputs += "input 0;";
            taken(inputs, i);
        }
        refused(HEAD, 1, 14);
        String gates = inputs;
        for (int i = 1; i <= 12; i++) {
            gates += "gate not 0 1 1 1;";
            taken(gates, 4 + i);
        }
        GlitchCourt x = Due.court(gates);
        Due.equal("5 inputs", x.size(0), 4);
        Due.equal("5 gates", x.size(1), 12);
        Due.equal("5 gates of none", Due.court(ONE).size(1), 0);
    }

    // Section 5: the ranges of the numbers

    private static void headRanges() {
        range("bench ", 4, 60, " 1 1 1;input 0;");
        range("bench 9 ", 1, 20, " 1 1;input 0;");
        range("bench 9 1 ", 0, 9, " 1;input 0;");
        range("bench 9 1 1 ", 0, 99, ";input 0;");
    }

    private static void inputRanges() {
        range(HEAD + "input ", 0, 1, ";");
        range(HEAD + "input 0;input ", 0, 1, ";");
        timeRange(4);
        timeRange(9);
        timeRange(60);
    }

    private static void timeRange(int horizon) {
        String before = "bench " + horizon + " 1 1 1;input 0 ";
        refused(before + "0;", 2, before.length());
        taken(before + "1;");
        taken(before + horizon + ";");
        refused(before + (horizon + 1) + ";", 2, before.length());
        refused(before + "1 " + (horizon + 1) + ";", 2, before.length() + 2);
    }

    private static void gateRanges() {
        String eleven = HEAD + "input 0;input 0;input 0;input 0;" + "gate same 0 1 1 1;".repeat(11);
        for (String kind : new String[] {"and", "or", "xor", "nand", "nor"}) {
            range(ONE + "gate " + kind + " ", 0, 0, " 0 1 1 1;");
            range(ONE + "gate " + kind + " 0 ", 0, 0, " 1 1 1;");
            range(eleven + "gate " + kind + " ", 0, 14, " 0 1 1 1;");
            range(eleven + "gate " + kind + " 0 ", 0, 14, " 1 1 1;");
            delayRanges(ONE + "gate " + kind + " 0 0 ");
        }
        for (String kind : new String[] {"not", "same"}) {
            range(ONE + "gate " + kind + " ", 0, 0, " 1 1 1;");
            range(eleven + "gate " + kind + " ", 0, 14, " 1 1 1;");
            delayRanges(ONE + "gate " + kind + " 0 ");
        }
        taken(eleven + "gate and 14 14 1 1 1;", 16);
    }

    private static void delayRanges(String before) {
        range(before, 1, 9, " 1 1;");
        range(before + "1 ", 1, 9, " 1;");
        range(before + "1 1 ", 1, 9, ";");
    }

    private static void purseRanges() {
        range(ONE + "purses ", 0, 99999, " 0 0;");
        range(ONE + "purses 0 ", 0, 99999, " 0;");
        range(ONE + "purses 0 0 ", 0, 99999, ";");
    }

    /** The least and the greatest numbers are kept as they are. */
    private static void numbersArrive() {
        int[] least = {1, 1, 4, 1, 0, 0, 0, 0, 0, 0};
        int[] most = {1, 1, 60, 20, 9, 99, 0, 99999, 99998, 99997};
        GlitchCourt low = Due.court("bench 4 1 0 0;input 0;gate and 0 0 1 2 3;purses 0 0 0;");
        GlitchCourt high = Due.court("bench 60 20 9 99;input 1;gate same 0 9 8 7;purses 99999 99998 99997;");
        for (int what = 0; what < 10; what++) {
            Due.equal("5 least " + what, low.size(what), least[what]);
            Due.equal("5 greatest " + what, high.size(what), most[what]);
        }
        for (int which = 0; which < 3; which++) {
            Due.equal("6 delay " + which, low.gate(1, 3 + which), 1 + which);
            Due.equal("6 great delay " + which, high.gate(1, 3 + which), 9 - which);
        }
        Due.equal("9 value 0", low.wave(0, 0), 0L);
        Due.equal("9 value 1", high.wave(0, 0), (1L << 61) - 1);
        Due.load(high, ONE);
        for (int purse = 0; purse < 3; purse++) {
            Due.equal("3 without purses " + purse, high.size(7 + purse), 0);
        }
        Due.equal("9 changes at the first and the last time",
                Due.court("bench 4 1 1 1;input 1 1 4;").wave(0, 0), 17L);
    }

    /** Numbers that would be in range if they were cut to 32 or 64 bits. */
    private static void greatNumbers() {
        for (String great : new String[] {"4294967305", "18446744073709551625", "-4294967287", "1" + "0".repeat(200)}) {
            refused("bench " + great + " 1 1 1;input 0;", great.charAt(0) == '-' ? 1 : 2, 6);
            refused("bench 9 1 1 " + great + ";input 0;", great.charAt(0) == '-' ? 1 : 2, 12);
        }
        taken("bench " + "0".repeat(300) + "9 1 1 1;input 0;", 1);
    }

    private static void ascendingTimes() {
        String before = HEAD + "input 0 5 ";
        taken(before + "6;");
        refused(before + "5;", 4, before.length());
        refused(before + "4;", 4, before.length());
        refused(before + "1;", 4, before.length());
        taken(HEAD + "input 0 8 9;");
        refused(HEAD + "input 0 9 9;", 4, 24);
        taken(HEAD + "input 0 1 2 3 4 5 6 7 8 9;");
        refused(HEAD + "input 0 1 2 3 4 5 6 7 8 9 9;", 4, 40);
        refused(HEAD + "input 0 1 2 3 4 5 6 7 8 9 1;", 4, 40);
        StringBuilder all = new StringBuilder("bench 60 1 1 1;input 0");
        for (int t = 1; t <= 60; t++) {
            all.append(' ').append(t);
        }
        taken(all + ";", 1);
        refused(all + " 60;", 4, all.length() + 1);
        refused(all + " 1;", 4, all.length() + 1);
        refused(all + " 61;", 2, all.length() + 1);
        refused(all + " 0;", 2, all.length() + 1);
        // Each input begins anew.
        taken(HEAD + "input 0 9;input 0 1;");
    }

    private static void keywordsTooMany() {
        String four = HEAD + "input 0;input 0;input 0;input 0;";
        refused(four + "input 0;", 3, four.length());
        refused(four + "input", 3, four.length());
        refused(four + "input A", 3, four.length());
        refused(four + "inputs", 1, four.length());
        String twelve = ONE + "gate not 0 1 1 1;".repeat(12);
        refused(twelve + "gate not 0 1 1 1;", 3, twelve.length());
        refused(twelve + "gate", 3, twelve.length());
        refused(twelve + "gate A", 3, twelve.length());
        refused(twelve + "gates", 1, twelve.length());
        taken(twelve + "purses 1 1 1;", 13);
        taken(four + "purses 1 1 1;", 4);
    }

    /** Several codes apply to the token: the smallest one. */
    private static void smallestCode() {
        String four = HEAD + "input 0;input 0;input 0;input 0;gate not 0 1 1 1;";
        refused(four + "input 0;", 1, four.length());
        String twelve = ONE + "gate not 0 1 1 1;".repeat(12) + "purses 1 1 1;";
        refused(twelve + "gate not 0 1 1 1;", 1, twelve.length());
        refused(HEAD + "input 0 5 0;", 2, 24);
        refused(HEAD + "input 0 5 10 4;", 2, 24);
        refused(HEAD + "input 0 9 10;", 2, 24);
    }

    private static void firstError() {
        refused("bench 3 0 10 100 A", 2, 6);
        refused("bench 9 0 10 100 A", 2, 8);
        refused("bench 9 1 10 100 A", 2, 10);
        refused("bench 9 1 1 100 A", 2, 12);
        refused("bench 9 1 1 1 A", 1, 14);
        refused(HEAD + "input 0 5 5 0 10 A", 4, 24);
        refused(ONE + "gate and 1 1 0 0 0 A", 2, 31);
        refused(ONE + "gate and 0 1 0 0 0 A", 2, 33);
        refused(ONE + "gate and 0 0 0 0 0 A", 2, 35);
        refused(ONE + "gate and 0 0 1 0 0 A", 2, 37);
        refused(ONE + "gate and 0 0 1 1 0 A", 2, 39);
        refused(ONE + "gate and 0 0 1 1 1 A", 1, 41);
    }

    // Section 5: the tokens

    private static String byteText(int value) {
        return String.valueOf((char) value);
    }

    /** A letter makes the word another one, and so the error stands at its first byte. */
    private static void letters() {
        for (int value = 0; value < 256; value++) {
            String text = "bench" + byteText(value) + "9 1 1 1;input 0;";
            if (value >= 'a' && value <= 'z') {
                refused(text, 1, 0);
            } else if (value == ' ' || value == '\n' || value == '0' || value >= '1' && value <= '5') {
                taken(text, 1);
            } else if (value >= '6' && value <= '9') {
                refused(text, 2, 5);
            } else {
                refused(text, 1, 5);
            }
        }
    }

    private static void digits() {
        for (int value = 0; value < 256; value++) {
            String text = "bench 4" + byteText(value) + " 1 1 1;input 0;";
            if (value >= '0' && value <= '9') {
                GlitchCourt x = Due.court(text);
                Due.equal("5 digit " + value, x.size(2), 40 + value - '0');
            } else if (value == ' ' || value == '\n') {
                taken(text, 1);
            } else {
                refused(text, 1, 7);
            }
        }
    }

    /** Only 32 and 10 separate, and they do so wherever they stand and however many they are. */
    private static void separators() {
        for (int value = 0; value < 256; value++) {
            if (value == ' ' || value == '\n') {
                taken(ONE + byteText(value), 1);
                taken(byteText(value) + ONE, 1);
            } else {
                refused(ONE + byteText(value), 1, ONE.length());
            }
        }
        taken("\n \nbench\n9 \n1  1\n\n1 ; input\n0 5\n6 ;\n", 1);
        taken("bench9 1 1 1;input0 5;gate and0 0 1 1 1;purses0 0 0;", 2);
        refused("bench 9 1 1 1;input 01 1 0;", 2, 25);
        refused("bench 1 2 1 1;input 0;", 2, 6);
        refused("bench 1\n2 1 1;input 0;", 2, 6);
    }

    private static void maximalRuns() {
        refused("benchinput 9", 1, 0);
        refused("b ench 9", 1, 0);
        refused(HEAD + "inputinput 0;", 1, 14);
        refused(ONE + "gatenot 0 1 1 1;", 1, 22);
        refused(ONE + "gate notsame 0 1 1 1;", 1, 27);
        refused(ONE + "gate no t 0 1 1 1;", 1, 27);
        refused(ONE + "gate an 0 0 1 1 1;", 1, 27);
        refused(ONE + "gate andd 0 0 1 1 1;", 1, 27);
        refused(ONE + "purse 0 0 0;", 1, 22);
        // Three digits are one number, not three.
        refused("bench 911 1;input 0;", 2, 6);
        refused(ONE + "gate not 0 111;", 2, 33);
    }

    private static final String[] TOKENS = {"bench", "9", "1", "1", "1", ";", "input", "0", "2", "5", ";", "input", "1",
        ";", "gate", "and", "0", "1", "2", "3", "4", ";", "gate", "not", "2", "1", "1", "1", ";", "purses", "1", "2",
        "3", ";"};

    private static String firstTokens(int count) {
        return Due.joined(TOKENS, count);
    }

    /** Cut off behind each token: the text is whole behind an input, a gate and the purses alone. */
    private static void endsTooEarly() {
        for (int count = 0; count <= TOKENS.length; count++) {
            String text = firstTokens(count);
            switch (count) {
                case 11: taken(text, 1); break;
                case 14: taken(text, 2); break;
                case 22: taken(text, 3); break;
                case 29: case 34: taken(text, 4); break;
                default: refused(text, 1, text.length()); break;
            }
        }
        // The position is the length of the text, blanks and all.
        refused("bench" + " ".repeat(30), 1, 35);
        refused("bench", 1, 5);
    }

    /** In place of each token one that no place allows. */
    private static void notAllowed() {
        for (int count = 0; count <= TOKENS.length; count++) {
            String before = firstTokens(count);
            StringBuilder behind = new StringBuilder();
            for (int i = count + 1; i < TOKENS.length; i++) {
                behind.append(' ').append(TOKENS[i]);
            }
            for (String bad : new String[] {"A", "x", "(", "<", "many", "\u0000"}) {
                refused(before + bad + behind, 1, before.length());
            }
        }
        refused(firstTokens(34) + ";", 1, firstTokens(34).length());
        refused(firstTokens(34) + "purses 1 2 3;", 1, firstTokens(34).length());
        refused(firstTokens(34) + "1", 1, firstTokens(34).length());
        refused(firstTokens(29) + "input 0;", 1, firstTokens(29).length());
        refused(firstTokens(6) + "gate not 0 1 1 1;", 1, firstTokens(6).length());
        refused(firstTokens(6) + "purses 1 1 1;", 1, firstTokens(6).length());
        refused(firstTokens(5) + "1;", 1, firstTokens(5).length());
        refused(firstTokens(4) + ";", 1, firstTokens(4).length());
        refused(firstTokens(33) + "4;", 1, firstTokens(33).length());
        // A gate without a kind.
        refused(ONE + "gate 0 0 1 1 1;", 1, 27);
        refused(ONE + "gate;", 1, 26);
        // A gate with one net too many or too few.
        refused(ONE + "gate not 0 0 1 1 1;", 2, 33);
        refused(ONE + "gate same 0 1 1 1 1;", 1, 40);
        refused(ONE + "gate nor 0 1 1 1;", 2, 33);
        refused(ONE + "gate nor 0 0 1 1;", 1, 38);
    }

    // Promise 4

    private static void positions() {
        GlitchCourt x = new GlitchCourt();
        Due.equal("4 no call yet", x.errorPosition(), NONE);
        x.feed(0, 0, 0, 0, 0);
        Due.illegal("4 a call that reads nothing", () -> x.load(21));
        Due.equal("4 still none", x.errorPosition(), NONE);
        Due.illegal("4 a query that reads nothing", () -> x.query(21));
        Due.equal("4 none even now", x.errorPosition(), NONE);
        x.load(20);
        Due.equal("4 the first byte", x.errorPosition(), 0);
        Due.query(x, "many net=0");
        Due.equal("4 a good query", x.errorPosition(), NONE);
        Due.query(x, " many net==");
        Due.equal("4 a bad query", x.errorPosition(), 10);
        Due.illegal("4 then one that reads nothing", () -> x.load(1));
        x.feed(0, 0, 0, 0, 0);
        x.deposit(0, 1);
        x.saveSnapshot();
        x.undo();
        x.restoreSnapshot();
        Due.equal("4 stays", x.errorPosition(), 10);
        x.load(0);
        Due.load(x, ONE);
        Due.equal("4 a good load", x.errorPosition(), NONE);
    }
}
