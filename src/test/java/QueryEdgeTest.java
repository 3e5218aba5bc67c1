/** The edges of promise 44 (query) and of the section 6 of the Description. */
public final class QueryEdgeTest {
    private static final int NONE = -1;
    private static final int HIDDEN = -1000000000;
    /** 16 nets, the most there are: 4 inputs and 12 gates. */
    private static final String FULL =
            "bench 9 1 1 1;" + "input 0;".repeat(4) + "gate not 0 1 1 1;".repeat(12);
    /** Net 1 is shown 1 at 3 to 5 and 8 to 9, and always dear 0; net 2 is an or of nets 0 and 1. */
    private static final String PULSES =
            "bench 20 4 0 0;input 0 2 5 7 9;gate same 0 9 9 1;gate or 0 1 1 1 1;purses 50 60 7;";

    public static void main(String[] args) {
        lengths();
        fullLength();
        emptyAfterwards();
        countsOfNets();
        signs();
        numbers();
        numbersOfAnInput();
        numbersOfAGate();
        lastTime();
        sixOpen();
        endOfANot();
        order();
        bytes();
        endsTooEarly();
        notAllowed();
        textsOfTheOtherKind();
        Due.close("QueryEdgeTest");
    }

    private static void asked(GlitchCourt x, String text, int due) {
        Due.equal("44 " + text, Due.query(x, text), due);
        Due.equal("4 no error in " + text, x.errorPosition(), NONE);
    }

    private static void refused(String text, int code, int position) {
        GlitchCourt x = Due.court(PULSES);
        Due.equal("44 " + text, Due.query(x, text), HIDDEN - code);
        Due.equal("4 position in " + text, x.errorPosition(), position);
    }

    private static void lengths() {
        GlitchCourt x = new GlitchCourt();
        for (int length : Due.outside(0, 0)) {
            Due.illegal("44 length " + length + " of an empty buffer", () -> x.query(length));
        }
        Due.equal("44 an empty text", x.query(0), HIDDEN - 1);
        Due.equal("4 at 0", x.errorPosition(), 0);
        Due.feed(x, "many net=0          ");
        for (int length : Due.outside(0, 20)) {
            Due.illegal("44 length " + length + " of 20", () -> x.query(length));
        }
        Due.equal("44 all 20", x.query(20), 1);
        Due.feed(x, "many net=0          ");
        Due.equal("44 9 of 20", x.query(9), HIDDEN - 1);
        Due.equal("4 at 9", x.errorPosition(), 9);
    }

    /** 200 bytes are read to the last one, 201 not at all. */
    private static void fullLength() {
        GlitchCourt x = Due.court(FULL);
        String full = "many net<1" + " ".repeat(189) + "6";
        asked(x, full.substring(0, 10) + " ".repeat(190), 1);
        asked(x, "many net<" + " ".repeat(189) + "12", 12);
        Due.equal("44 the last byte counts", Due.query(x, full), HIDDEN - 1);
        Due.equal("4 at 199", x.errorPosition(), 199);
        Due.equal("44 ends too early", Due.query(x, "many net<" + " ".repeat(191)), HIDDEN - 1);
        Due.equal("4 at 200", x.errorPosition(), 200);
        Due.feed(x, "many net=0" + " ".repeat(590));
        for (int length : Due.outside(0, 200)) {
            Due.illegal("44 length " + length + " of 600", () -> x.query(length));
        }
        Due.equal("44 nothing is gone", x.query(200), 1);
    }

    private static void emptyAfterwards() {
        GlitchCourt x = new GlitchCourt();
        Due.feed(x, "many net=0 or net=1 ");
        Due.equal("44 the first bytes", x.query(10), 1);
        Due.illegal("44 no more bytes", () -> x.query(1));
        Due.feed(x, "many net=!          ");
        Due.equal("44 an error", x.query(20), HIDDEN - 1);
        Due.illegal("44 no more bytes after an error", () -> x.query(1));
        Due.equal("2 begins anew", x.feed(0, 0, 0, 0, 0), 20);
        Due.equal("44 what is open at an error", Due.query(Due.court(PULSES), "many ((((((net="), HIDDEN - 1);
        GlitchCourt y = Due.court(PULSES);
        Due.query(y, "many ((((((net=");
        asked(y, "many ((((((net=1))))))", 1);
        Due.query(y, "many not not not not not not");
        asked(y, "many net=1", 1);
        asked(y, "many not not not not not not net=1", 1);
    }

    private static void countsOfNets() {
        GlitchCourt x = new GlitchCourt();
        asked(x, "many net=net", 1);
        asked(x, "many net>net", 0);
        asked(x, "first net=net", 0);
        asked(x, "first net>net", NONE);
        asked(x, "many net=1", 0);
        GlitchCourt y = Due.court(FULL);
        asked(y, "many net=net", 16);
        asked(y, "many net>0", 15);
        asked(y, "first net>14", 15);
        asked(y, "first net>15", NONE);
        asked(y, "many net>15", 0);
        asked(y, "first kind>0", 4);
        asked(y, "many not net=15", 15);
        String[] properties = {"kind", "cone", "changes", "wrong", "settled", "ruled", "pulses", "last"};
        for (String property : properties) {
            asked(y, "many " + property + "=" + property, 16);
        }
    }

    /** Each sign with a number that is one less, as great and one more. */
    private static void signs() {
        GlitchCourt x = Due.court(FULL);
        int[] less = {16, 0, 0};
        int[] equal = {0, 16, 0};
        int[] greater = {0, 0, 16};
        for (int i = 0; i < 3; i++) {
            asked(x, "many " + (6 + i) + "<7", less[i]);
            asked(x, "many " + (6 + i) + "=7", equal[i]);
            asked(x, "many " + (6 + i) + ">7", greater[i]);
        }
        asked(x, "many net<7", 7);
        asked(x, "many net=7", 1);
        asked(x, "many net>7", 8);
        asked(x, "many 7<net", 8);
        asked(x, "many 7>net", 7);
    }

    private static void numbers() {
        GlitchCourt x = Due.court(PULSES);
        asked(x, "many 0=0", 3);
        asked(x, "many 9999=9999", 3);
        asked(x, "many 9998<9999", 3);
        asked(x, "many 00000000000000009999=9999", 3);
        asked(x, "many 9999>net", 3);
        asked(x, "many net<9999", 3);
        refused("many 10000=net", 2, 5);
        refused("many net=10000", 2, 9);
        refused("many net=4294967296", 2, 9);
        refused("many net=18446744073709551616", 2, 9);
        refused("many (not 10000=net)", 2, 10);
        refused("many net=-1", 1, 9);
    }

    /** What an input has none of is 0. */
    private static void numbersOfAnInput() {
        GlitchCourt x = Due.court("bench 9 20 1 1;input 0 2 4 9;");
        for (String property : new String[] {"net", "kind", "cone", "wrong", "settled", "ruled", "pulses"}) {
            asked(x, "many " + property + "=0", 1);
        }
        asked(x, "many changes=3", 1);
        asked(x, "many last=1", 1);
        asked(new GlitchCourt(), "many changes=0 and last=0", 1);
    }

    private static void numbersOfAGate() {
        String kinds = "bench 9 1 1 1;input 0;gate and 0 0 1 1 1;gate or 0 0 1 1 1;gate xor 0 0 1 1 1;"
                + "gate nand 0 0 1 1 1;gate nor 0 0 1 1 1;gate not 0 1 1 1;gate same 0 1 1 1;";
        GlitchCourt x = Due.court(kinds);
        asked(x, "many kind=net", 8);
        asked(x, "first kind=7", 7);
        GlitchCourt y = Due.court(PULSES);
        asked(y, "first pulses=3", 1);
        asked(y, "first cone=2", 2);
        asked(y, "first changes=4 and wrong=5", 1);
        y.open(0, 1, 0, true);
        y.judge(0);
        y.accept(0);
        asked(y, "first ruled=3 and settled=0 and wrong=2 and pulses=1 and changes=2", 1);
        y.replay(1, 3, 3);
        asked(y, "first ruled=2 and settled=1", 1);
        y.replay(1, 0, 20);
        asked(y, "first ruled=0 and settled=21 and wrong=0 and pulses=0 and changes=0", 1);
        asked(y, "many settled=0", 2);
        asked(y, "many ruled>0", 0);
    }

    private static void lastTime() {
        asked(Due.court("bench 60 1 1 1;input 0 60;"), "many last=1", 1);
        asked(Due.court("bench 60 1 1 1;input 1 60;"), "many last=0", 1);
        asked(Due.court("bench 4 1 1 1;input 0 4;"), "many last=1", 1);
        asked(Due.court("bench 4 1 1 1;input 0 3 4;"), "many last=1", 0);
        // Of the shown wave: cheap 1 and dear 0 at the horizon, then settled.
        GlitchCourt x = Due.court("bench 20 1 0 0;input 0 15;gate same 0 9 9 1;");
        asked(x, "many last=1", 2);
        x.replay(1, 20, 20);
        asked(x, "many last=1", 1);
        asked(x, "first changes=2 and wrong=4", 1);
    }

    /** Six of 'not' and '(' can be open at the same time, the seventh is refused, in every order. */
    private static void sixOpen() {
        GlitchCourt x = Due.court(PULSES);
        for (int drawn = 0; drawn < 64; drawn++) {
            StringBuilder opening = new StringBuilder("first ");
            StringBuilder closing = new StringBuilder();
            int nots = 0;
            for (int i = 0; i < 6; i++) {
                boolean not = (drawn >> i & 1) == 1;
                opening.append(not ? "not " : "( ");
                closing.append(not ? "" : ")");
                nots += not ? 1 : 0;
            }
            asked(x, opening + "net=0" + closing, nots % 2);
            if (drawn % 7 == 0) {
                refused(opening + "not net=0" + closing, 3, opening.length());
                refused(opening + "(net=0)" + closing, 3, opening.length());
                refused(opening + "(", 3, opening.length());
            }
        }
    }

    /** A 'not' is open until the end of its factor, no longer and no shorter. */
    private static void endOfANot() {
        GlitchCourt x = Due.court(PULSES);
        asked(x, "first not not not not not not net=1 and not not not not not not net=1", 1);
        asked(x, "many not not not not not not net=1 or not not not not not not net=2", 2);
        asked(x, "many not(((((net=1))))) and not(((((net=2)))))", 1);
        asked(x, "many (((((not net=1 and not net=2)))))", 1);
        asked(x, "many not not(((net=1) and (net=1)) or ((net=2)))", 2);
        asked(x, "many not not not(((net=1))) and ((((((net=0))))))", 1);
        refused("many (((((not net=1 and (net=2 and (net=1)))))))", 3, 35);
        refused("many not(((((net=1 and not net=2)))))", 3, 23);
        asked(x, "many not((((net=1) and ((net=2)))))", 3);
        refused("many not((((net=1) and (((net=2))))))", 3, 25);
        refused("many not not not not not not (net=1)", 3, 29);
        refused("many not not not not not (not net=1)", 3, 26);
        asked(x, "many not not not not not (net=1)", 2);
        // It holds for its factor alone, not for the rest of the conjunction.
        asked(x, "many not net=0 and net=1", 1);
        asked(x, "many not net=0 or net=0", 3);
    }

    private static void order() {
        GlitchCourt x = Due.court(PULSES);
        asked(x, "many net=0 or net=1 and net=2", 1);
        asked(x, "many net=1 and net=2 or net=0", 1);
        asked(x, "many (net=0 or net=1) and net=2", 0);
        asked(x, "many net=2 and (net=0 or net=1)", 0);
        asked(x, "many net=0 or net=1 or net=2", 3);
        asked(x, "many net<2 and net<1 and net=0", 1);
        asked(x, "many net=0 and net=1 or net=1 and net=1 or net=2", 2);
        asked(x, "many net=2 or (net=0 and (net=1 or net=0))", 2);
    }

    /** Behind a property each byte: a sign, a letter that makes another word of it, or not allowed. */
    private static void bytes() {
        for (int value = 0; value < 256; value++) {
            String text = "many net" + (char) value + "1";
            if (value == '<' || value == '=' || value == '>') {
                asked(Due.court(PULSES), text, 1);
            } else if (value == ' ' || value == '\n') {
                refused(text, 1, 9);
            } else {
                refused(text, 1, value >= 'a' && value <= 'z' ? 5 : 8);
            }
        }
        asked(Due.court(PULSES), "\n many\nnet \n=\n1 \n", 1);
        asked(Due.court(PULSES), "many(net=1)and(net=1)or not(net=1)", 3);
        refused("manynet=1", 1, 0);
        refused("many notnet=1", 1, 5);
        refused("many net=1and 1=1 andnet=1", 1, 18);
        asked(Due.court(PULSES), "many 1=net and net=1or 2=net", 2);
    }

    private static final String[] TOKENS = {"many", "not", "(", "net", "<", "7", "or", "(", "kind", "=", "0", ")",
        "and", "9", ">", "last", ")", "or", "cone", "=", "wrong"};

    private static String firstTokens(int count) {
        return Due.joined(TOKENS, count);
    }

    private static void endsTooEarly() {
        for (int count = 0; count <= TOKENS.length; count++) {
            String text = firstTokens(count);
            if (count == 17 || count == 21) {
                Due.equal("44 " + text, Due.query(Due.court(PULSES), text) >= 0, true);
            } else {
                refused(text, 1, text.length());
            }
        }
    }

    private static void notAllowed() {
        for (int count = 0; count <= TOKENS.length; count++) {
            String before = firstTokens(count);
            for (String bad : new String[] {"A", "x", ";", "many", "first", "nets", "\u0000", "\u00ff"}) {
                boolean first = count == 0 && (bad.equals("many") || bad.equals("first"));
                if (!first) {
                    refused(before + bad, 1, before.length());
                }
            }
        }
        for (String bad : new String[] {")", "<", "and", "or", "="}) {
            refused("many " + bad, 1, 5);
            refused("many not " + bad, 1, 9);
            refused("many (" + bad, 1, 6);
            refused("many net=" + bad, 1, 9);
            refused("many net=1 and " + bad, 1, 15);
        }
        for (String bad : new String[] {")", "<", "(", "not", "1", "net", "="}) {
            refused("many net=1 " + bad, 1, 11);
            refused("many (net=1)" + bad, 1, 12);
        }
        for (String bad : new String[] {"(", "not", ")", "1", "net", "and"}) {
            refused("many net " + bad, 1, 9);
        }
        refused("many (net=1", 1, 11);
        refused("many ((net=1)", 1, 13);
        refused("many (net=1 or net=2", 1, 20);
        refused("many net=1)", 1, 10);
        refused("many (net=1))", 1, 12);
        refused("not net=1", 1, 0);
        refused("net=1", 1, 0);
        refused("many net=(1)", 1, 9);
        refused("many net=not 1", 1, 9);
    }

    /** The signs of a query are no tokens of a bench, and ';' has no place in a query. */
    private static void textsOfTheOtherKind() {
        for (String sign : new String[] {"(", ")", "<", "=", ">"}) {
            GlitchCourt x = new GlitchCourt();
            Due.equal("3 " + sign + " in a bench", Due.load(x, "bench 9 1 1 1" + sign), -11);
            Due.equal("4 its position", x.errorPosition(), 13);
        }
        refused("many net=1;", 1, 10);
        refused("bench 9 1 1 1;input 0;", 1, 0);
    }
}
