/** Each sentence on FAULTS, and each of promises 1 to 5, that names an edge, in the document's order. */
final class FaultEdgesTest {
    private static final String AB = "man a 1 1;man b 1 1;";
    private static final String SIX = AB + "man c 1 1;man d 1 1;man e 1 1;man f 1 1;";
    private static final String KNOTS_63 = "law again 1" + "+1".repeat(31);
    private static final int BLANKS = 0x20202020;

    public static void main(String[] args) {
        firstAlongTheText();
        leastOfOnePlace();
        noTokens();
        cannotStand();
        moreMustCome();
        numbersBeyond();
        oneMoreThanAtMost();
        openBrackets();
        knots();
        knotsOfEachKind();
        toldAlready();
        untold();
        oneself();
        aNewObject();
        feeding();
        fullTape();
        telling();
        toldAnew();
        nothingOfTextsAhead();
        allStays();
        notSoMany();
        faults();
        named();
        Check.end();
    }

    private static void firstAlongTheText() {
        Check.says("FAULTS, the first along the text");
        Check.faultAt(2, "man a ^100 1000;$");
        Check.faultAt(1, "man a ^$ 1000;man a 1 1;");
        Check.faultAt(4, "tone ^x 100 0;");
        Check.faultAt(5, AB + "ring a ^a 100 0;");
        Check.faultAt(3, AB + "man ^a 100 1000;");
        Check.faultAt(3, "lines 1;^lines 7;");
        Check.faultAt(2, "lines ^7;lines 7;");
        Check.faultAt(3, "law fame 1;law ^fame 10000;");
        Check.faultAt(2, SIX + "^man a 100 1000;");
        Check.faultAt(2, "law fame ^10000+(;");
    }

    private static void leastOfOnePlace() {
        Check.says("(of one place the least), with its place");
        Check.faultAt(1, "man a 1 1 ^1000;");
        Check.faultAt(1, AB + "tone a ^a 1;");
        Check.faultAt(1, SIX.substring(0, SIX.length() - 1) + " ^man g 1 1;");
        Check.faultAt(1, "lines 1 ^lines 1;");
        Check.faultAt(1, "law fame 1 ^law fame 1;");
        Check.faultAt(1, "law again ((((((((1 ^(1)))))))));");
        Check.faultAt(1, KNOTS_63 + ";law fame 1;law dear ^+;");
        Check.faultAt(1, KNOTS_63 + ";law fame 1 ^not;");
        Check.faultAt(1, "law again 1<1" + "+1".repeat(30) + ";law fame 1;law dear ^<;");
        Check.faultAt(1, "law again 1" + "+1".repeat(30) + "<(1) ^<1;");
        Check.faultAt(1, "law again not 1" + "+1".repeat(30) + "<1 ^<1;");
        Check.faultAt(1, "law again not not 1" + "+1".repeat(30) + "+ ^not;");
        Check.faultAt(2, KNOTS_63 + ";law fame 1;law dear ^10000;");
    }

    private static void noTokens() {
        Check.says("1 a TOKEN that is none (a word of more than 6 letters that is none of the language, too)");
        for (char sign : "!\"#$%&',.0123456789:?@AZ[\\]_`{|}~\u007f\u0080\u00e9\u00ff\t\r\0".toCharArray()) {
            Check.faultAt(1, "^" + sign + "lines 1;");
            if (sign < '0' || sign > '9') {
                Check.faultAt(1, "lines ^" + sign + ";");
                Check.faultAt(1, "law again 1+^" + sign + ";");
                Check.faultAt(1, "law again 1 ^" + sign + ";");
            }
        }
        Check.faultAt(1, "^abcdefg 1;");
        Check.faultAt(1, AB + "tone ^abcdefg 1 1;");
        Check.faultAt(1, AB + "ring ^abcdefg a 1 1;");
        Check.faultAt(1, AB + "ring a ^abcdefg 1 1;");
        Check.faultAt(1, "lines ^abcdefg;");
        Check.faultAt(1, "law ^abcdefg 1;");
        Check.faultAt(1, "law again ^abcdefg;");
        Check.faultAt(1, "law again 1 ^abcdefg;");
        Check.faultAt(4, AB + "tone ^abcdef 1 1;");
    }

    private static void cannotStand() {
        Check.says("or can't stand there");
        for (String token : ("man tone price ring lines tries seed law again fame dear or and not turn vain purse busy "
            + "known cost time abc ( ) + - * / = < <= <> > >=").split(" ")) {
            Check.faultAt(1, "lines ^" + token + " 1;");
            Check.faultAt(1, "lines 1 ^" + token + ";");
            Check.faultAt(1, "man ^" + (token.equals("abc") ? "1" : token) + " 1 1;");
            Check.faultAt(1, "price 0 ^" + token + " 0;");
        }
    }

    private static void moreMustCome() {
        Check.says("(the length, if more must come)");
        String text = AB + "ring a b 1 1";
        for (int n = AB.length() + 1; n <= text.length(); n++) {
            EngagedTone x = new EngagedTone();
            Check.feed(x, text + "          ");
            boolean isWordCut = n < AB.length() + 4;
            Check.due("text(" + n + ")", x.text(n), -1);
            Check.due("fault of " + n, x.fault(0), 1);
            Check.due("place of " + n, x.fault(1), isWordCut ? AB.length() : n);
        }
        Check.faultAt(1, "man^");
        Check.faultAt(1, "man  \n ^");
        Check.faultAt(1, "man a 1 1   ^");
        Check.faultAt(1, "law^");
        Check.faultAt(1, "law again^");
        Check.faultAt(1, "law again (^");
        Check.faultAt(1, "law again (1^");
        Check.faultAt(1, "law again 1+^");
        Check.faultAt(1, "law again not ^");
        Check.faultAt(1, "law again 1^");
        EngagedTone x = new EngagedTone();
        Check.feed(x, "law again 1<=2;lines 7;");
        Check.due("what stands behind isn't looked at", x.text(12), -1);
        Check.due("its place", x.fault(1), 12);
        EngagedTone y = new EngagedTone();
        Check.feed(y, "lines 16;");
        Check.due("a number that is cut", y.text(7), -1);
        Check.due("its fault", y.fault(0), 1);
        Check.due("its place", y.fault(1), 7);
    }

    private static void numbersBeyond() {
        Check.says("2 too much (at it): a number beyond what is said");
        Check.faultAt(2, "man a ^100 1;");
        Check.faultAt(2, "man a 1   ^0001000;");
        Check.faultAt(2, "tries ^0;");
        Check.faultAt(2, "tries ^000;");
        for (String huge : "1000000 2147483648 4294967297 4294967296 9223372036854775808 18446744073709551617".split(" ")) {
            Check.faultAt(2, "lines ^" + huge + ";");
            Check.faultAt(2, "seed ^" + huge + ";");
            Check.faultAt(2, "law again ^" + huge + ";");
        }
        Check.faultAt(2, "seed ^1" + "0".repeat(300) + ";");
    }

    private static void oneMoreThanAtMost() {
        Check.says("a seventh man and so on (at the word of the LINE)");
        Check.faultAt(2, SIX + "  ^man");
        Check.faultAt(2, SIX + "^man a 1 1;");
        Check.faultAt(2, SIX + "^man $;");
        Check.faultAt(2, AB + "tone a 0 1;".repeat(8) + "^tone");
        Check.faultAt(2, AB + "tone a 0 1;".repeat(8) + "^tone x 100 0;");
        Check.faultAt(2, "price 0 1;".repeat(6) + "^price");
        Check.faultAt(2, "price 0 1;".repeat(6) + "^price 100 0;");
        Check.faultAt(2, AB + "ring a b 0 1;".repeat(10) + "^ring");
        Check.faultAt(2, AB + "ring a b 0 1;".repeat(10) + "^ring a a 0 1;");
    }

    private static void openBrackets() {
        Check.says("a ninth '(' open");
        String eight = "(".repeat(8);
        String shut = ")".repeat(8);
        Check.fine("law again " + eight + "1" + shut + ";", 1);
        Check.faultAt(2, "law again " + eight + "^(1)" + shut + ";");
        Check.fine("law again " + eight + "1" + shut + "+" + eight + "1" + shut + ";", 1);
        Check.fine("law again " + "(".repeat(7) + "(1)+(1)" + ")".repeat(7) + ";", 1);
        Check.faultAt(2, "law again " + "(".repeat(7) + "(1)+(^(1))" + ")".repeat(7) + ";");
        Check.fine("law again " + eight + "1" + shut + ";law fame " + eight + "1" + shut + ";", 2);
        Check.faultAt(2, "law again 1+2*" + eight + "^(");
        Check.faultAt(2, "law again not not " + eight + "^(");
    }

    private static void knots() {
        Check.says("a 65th KNOT of all E (N, NAMES, signs, not, and, or: one each)");
        Check.due("63", Check.of(KNOTS_63 + ";").count(3), 63);
        Check.due("64", Check.of(KNOTS_63 + ";law fame 1;").count(3), 64);
        Check.due("64 with brackets", Check.of(KNOTS_63 + ";law fame ((1));").count(3), 64);
        Check.due("all others", Check.of("law again not (turn<1 and 2<>vain) or 3;law dear 5;").count(3), 11);
        Check.faultAt(2, KNOTS_63 + ";law fame 1^+1;");
        Check.faultAt(2, KNOTS_63 + ";law fame 1;law dear ^1;");
        Check.faultAt(2, KNOTS_63 + "+^1;");
        Check.faultAt(2, KNOTS_63 + ";law fame 1;law dear ((^1;");
        Check.faultAt(2, "law again " + "not ".repeat(64) + "^1;");
        Check.faultAt(2, "law again " + "not ".repeat(64) + "^not 1;");
        Check.due("64 of one", Check.of("law again " + "not ".repeat(63) + "1;").count(3), 64);
    }

    private static void knotsOfEachKind() {
        Check.says("KNOT of all E (N, NAMES, signs, not, and, or: one each)");
        for (String join : "+ - * / < <= = <> >= > and or".split(" ")) {
            Check.due("knots of " + join, Check.of("law again 1 " + join + " 1;").count(3), 3);
            Check.faultAt(2, KNOTS_63 + ";law fame 1 ^" + join + " 1;");
        }
        for (String name : "turn vain purse busy known cost time".split(" ")) {
            Check.due("knots of " + name, Check.of("law again " + name + ";").count(3), 1);
            Check.faultAt(2, KNOTS_63 + ";law fame 1;law dear ^" + name + ";");
        }
        Check.due("knots of not", Check.of("law again not 1;").count(3), 2);
        Check.faultAt(2, KNOTS_63 + ";law fame 1;law dear ^not 1;");
    }

    private static void toldAlready() {
        Check.says("3 told already: a name of a PERSON (at W), lines, tries, seed (at the word), a law of its RULE"
            + " (at RULE).");
        Check.faultAt(3, AB + "man ^a 1 1;");
        Check.faultAt(3, AB + "man ^b 2 2;");
        Check.fine("man a 1 1;man aa 1 1;man aaaaaa 1 1;man aaaaa 1 1;", 4);
        Check.faultAt(3, "man abcdef 1 1;man ^abcdef 1 1;");
        Check.fine("lines 1;tries 1;seed 1;", 3);
        Check.faultAt(3, "lines 3;^lines 3;");
        Check.faultAt(3, "tries 3;^tries");
        Check.faultAt(3, "seed 0;^seed 0;");
        Check.faultAt(3, "seed 0;lines 1;tries 1;law again 1;^seed 0;");
        for (String rule : "again fame dear".split(" ")) {
            Check.faultAt(3, "law " + rule + " 1;law ^" + rule + " 1;");
            Check.faultAt(3, "law " + rule + " 1;law ^" + rule);
        }
        Check.faultAt(3, "law dear 1;law again 1;law fame 1;law ^dear 1;");
    }

    private static void untold() {
        Check.says("4 a PERSON that isn't told ahead (at W).");
        Check.faultAt(4, "tone ^a 0 1;man a 1 1;");
        Check.faultAt(4, "man a 1 1;ring ^b a 0 1;man b 1 1;");
        Check.faultAt(4, "man a 1 1;ring a ^b 0 1;man b 1 1;");
        Check.faultAt(4, "man ab 1 1;tone ^a 0 1;");
        Check.faultAt(4, "man a 1 1;ring ^b b 0 1;");
        Check.fine("man a 1 1;tone a 0 1;man b 1 1;ring b a 0 1;", 4);
    }

    private static void oneself() {
        Check.says("5 a CALL to oneself (at the second PERSON).");
        Check.faultAt(5, AB + "ring a ^a 0 1;");
        Check.faultAt(5, AB + "ring b    ^b");
        Check.fine(AB + "ring b a 0 1;", 3);
    }

    private static void aNewObject() {
        Check.says("A TEXT without LINES; an empty TAPE.");
        EngagedTone x = new EngagedTone();
        for (int what = 0; what <= 14; what++) {
            Check.due("count(" + what + ")", x.count(what), 0);
        }
        Check.due("no person", x.man(0, 0), -1);
        Check.due("no tone", x.tone(0, 0), -1);
        Check.due("no call", Check.ring(x, 0, 0), Check.NO_INDEX);
        Check.due("no law", x.law(1, 0), Long.MIN_VALUE);
        Check.due("no image", x.back(), -1);
        Check.due("text(1)", x.text(1), -2);
        Check.due("the first twenty", x.feed(BLANKS, BLANKS, BLANKS, BLANKS, BLANKS), 20);
        Check.due("text(0) of a new object", new EngagedTone().text(0), 0);
    }

    private static void feeding() {
        Check.says("Twenty bytes come behind the TAPE, four of each number, the highest first: how many it has");
        EngagedTone x = new EngagedTone();
        Check.due("feed", x.feed(0x6d616e20, 0x61626364, 0x65662031, 0x32203334, 0x353b7365), 20);
        Check.due("feed", x.feed(0x65642034, 0x323b2020, BLANKS, BLANKS, BLANKS), 40);
        Check.due("man abcdef 12 345;seed 42;", x.text(26), 2);
        Check.due("vain", x.man(0, 0), 12);
        Check.due("purse", x.man(0, 1), 345);
        Check.due("abcdef", x.named(1 << 25 | 2 << 20 | 3 << 15 | 4 << 10 | 5 << 5 | 6), 0);
        Check.due("bytes above 127", x.feed(0x20202020, 0xffffffff, 0x80808080, -1, Integer.MIN_VALUE), 20);
        Check.due("no token", x.text(20), -1);
        Check.due("its place", x.fault(1), 4);
    }

    private static void fullTape() {
        Check.says("NONE, and none come, if it would have more than 700.");
        EngagedTone x = new EngagedTone();
        for (int i = 1; i <= 34; i++) {
            Check.due("feed " + i, x.feed(BLANKS, BLANKS, BLANKS, BLANKS, BLANKS), 20 * i);
        }
        Check.due("up to 700", x.feed(BLANKS, BLANKS, BLANKS, 0x6c696e65, 0x7320313b), 700);
        Check.due("beyond", x.feed(-1, -1, -1, -1, -1), -1);
        Check.due("beyond again", x.feed(-1, -1, -1, -1, -1), -1);
        Check.due("text(701)", x.text(701), -2);
        Check.due("none came", x.text(700), 1);
        Check.due("empty then", x.feed(BLANKS, BLANKS, BLANKS, BLANKS, BLANKS), 20);
    }

    private static void telling() {
        Check.says("The TAPE's first n bytes (it is empty then) are the TEXT");
        EngagedTone x = new EngagedTone();
        Check.feed(x, "lines 1;tries 1;seed 1;$");
        Check.due("the first two lines", x.text(16), 2);
        Check.due("empty then", x.text(1), -2);
        Check.due("fed from the first byte on", Check.feed(x, "lines 7;"), 20);
        Check.due("none of 20", x.text(0), 0);
        Check.due("empty then", x.text(1), -2);
        Check.due("the whole tape", Check.feed(x, "lines 1;            "), 20);
        Check.due("text(20)", x.text(20), 1);
        Check.feed(x, "$");
        Check.due("with a fault", x.text(1), -1);
        Check.due("empty then, too", x.text(1), -2);
        Check.due("how many LINES", Check.tell(x, SIX + "tone a 1 1;ring a b 1 1;price 1 1;lines 1;law again 1;"), 11);
    }

    /** All that a text that is told anew should wipe. */
    private static EngagedTone used(String text) {
        EngagedTone x = Check.of(text);
        x.buy(1, 2, 3);
        x.go(3);
        x.hear(3, 0, true);
        x.hear(4, 0, true);
        x.known(1);
        x.keep();
        x.lend(0, 9);
        x.lend(0, 9);
        return x;
    }

    private static void toldAnew() {
        Check.says("(QUARTER 0, all WAITING, no FAME, nothing HEARD, all KNOWN, no IMAGE, nothing to undo then)");
        String text = "man a 50 99;man b 1 99;tone a 0 2;ring b a 0 1;ring a b 1 1;tries 1;law again 1;";
        EngagedTone x = used(text);
        Check.due("given up ahead of it", x.count(8), 1);
        Check.due("fame ahead of it", x.man(0, 2) > 0, true);
        Check.due("told anew", Check.tell(x, text), 7);
        int[] want = {2, 1, 2, 1, 0, 2, 0, 0, 0, 0, 0, 0, 0, 0, 0};
        for (int what = 0; what < want.length; what++) {
            Check.due("count(" + what + ")", x.count(what), want[what]);
        }
        Check.due("fame", x.man(0, 2), 0);
        Check.due("purse", x.man(0, 1), 99);
        Check.due("to begin", x.tone(0, 3), 0);
        Check.due("due", x.ring(0, 2), 0);
        Check.due("tried", x.ring(0, 5), 0);
        Check.due("image", x.back(), -1);
        Check.due("undo", x.undo(), -1);
        x.hear(1, 0, true);
        x.hear(2, 0, true);
        Check.due("all known", x.count(13), 2);
        Check.due("a text without lines", x.text(0), 0);
        for (int what = 0; what <= 14; what++) {
            Check.due("count(" + what + ") of none", x.count(what), 0);
        }
        Check.due("price", x.price(0), 5);
        Check.due("no person", x.named(1 << 25), -1);
    }

    private static void nothingOfTextsAhead() {
        Check.says("The TAPE's first n bytes (it is empty then) are the TEXT (QUARTER 0,");
        String full = SIX + "tone a 0 1;".repeat(8) + "price 0 9;".repeat(6) + "ring a b 0 1;".repeat(10)
            + "lines 1;tries 1;seed 9;law again 1;law fame 2;law dear 3;";
        EngagedTone x = new EngagedTone();
        for (int i = 0; i < 4; i++) {
            Check.due("a full text", Check.tell(x, full), 36);
            Check.due("its law", x.law(1, 0), 2);
            Check.due("its knots", x.count(3), 3);
            Check.due("a fault in brackets", Check.tell(x, "law again (not (1+(" + i + "*;"), -1);
            Check.due("the law stays", x.law(1, 0), 2);
            Check.due("64 knots", Check.tell(x, "man a 1 1;" + KNOTS_63 + ";law fame 1;"), 3);
            Check.due("their value", x.law(1, 0), 1);
        }
        for (int i = 0; i < 4; i++) {
            Check.due("a text without most", Check.tell(x, "man a 9 9;man b 9 9;tone b 0 9;ring a b 0 1;"), 4);
            Check.due("price", x.price(0), 5);
            Check.due("knots", x.count(3), 0);
            for (int what = 0; what < 3; what++) {
                Check.due("law " + what, x.law(what, 0), Long.MIN_VALUE);
            }
            Check.due("it is dead at 5", x.ahead(1, 2, 0), 0);
            Check.due("free", x.tried(5, 0, 2), 0);
            Check.due("three tries", x.tried(5, 0, 3), 1);
        }
        String three = SIX + "ring a b 0 2;ring c d 0 2;ring e f 0 2;";
        for (int i = 0; i < 4; i++) {
            Check.tell(x, three + "lines 1;");
            Check.due("one line", x.ahead(1, 0, 0), 1);
            Check.tell(x, three);
            Check.due("three lines", x.ahead(1, 0, 0), 3);
        }
    }

    private static void allStays() {
        Check.says(": how many LINES; NONE with a FAULT, all stays");
        String text = "man a 50 99;man b 1 99;tone a 0 2;ring b a 0 1;ring a b 1 1;tries 1;law again 1;price 1 8;";
        EngagedTone x = used(text);
        EngagedTone y = used(text);
        Check.due("a fault at the end", Check.tell(x, "man c 1 1;price 0 1;lines 1;seed 1;law fame 7;tone c 0 1;$"), -1);
        for (int what = 0; what <= 14; what++) {
            Check.due("count(" + what + ")", x.count(what), y.count(what));
        }
        for (int what = 0; what < 5; what++) {
            Check.due("man(0, " + what + ")", x.man(0, what), y.man(0, what));
            Check.due("tone(0, " + what + ")", x.tone(0, what), y.tone(0, what));
            Check.due("ring(1, " + what + ")", x.ring(1, what), y.ring(1, what));
        }
        Check.due("price(0)", x.price(0), 5);
        Check.due("price(1)", x.price(1), 8);
        Check.due("law", x.law(1, 0), Long.MIN_VALUE);
        Check.due("c", x.named(3 << 25), -1);
        Check.due("a", x.named(1 << 25), 0);
        Check.due("undo", x.undo(), 1);
        Check.due("spans", x.spans(0), y.spans(0));
        Check.due("image", x.back(), 3);
        Check.due("many faults one behind another", Check.tell(x, "lines 7;"), -1);
        Check.due("many faults one behind another", Check.tell(x, "tries 0;"), -1);
        Check.due("people", x.count(0), 2);
        Check.due("knots", x.count(3), 1);
    }

    private static void notSoMany() {
        Check.says("-2, and the TAPE stays: there are not so many, n is below 0.");
        EngagedTone x = new EngagedTone();
        Check.feed(x, "lines 1;lines 2;");
        for (int n : new int[] {21, 22, 700, 701, Integer.MAX_VALUE, -1, -2, -20, Integer.MIN_VALUE}) {
            Check.due("text(" + n + ")", x.text(n), -2);
        }
        Check.due("the tape stays", x.feed(BLANKS, BLANKS, BLANKS, BLANKS, BLANKS), 40);
        Check.due("its bytes, too", x.text(8), 1);
    }

    private static void faults() {
        Check.says("Of the latest text() that was not -2, what 0: its FAULT (0), 1: its place (NONE without).");
        EngagedTone x = new EngagedTone();
        Check.due("ahead of any", x.fault(0), 0);
        Check.due("ahead of any", x.fault(1), -1);
        Check.tell(x, "lines 7;");
        Check.due("too much", x.fault(0), 2);
        Check.due("at 6", x.fault(1), 6);
        Check.due("not so many", x.text(1), -2);
        Check.due("below 0", x.text(-1), -2);
        Check.due("it stays", x.fault(0), 2);
        Check.due("it stays", x.fault(1), 6);
        Check.tell(x, "$");
        Check.due("the latest", x.fault(0), 1);
        Check.due("at 0", x.fault(1), 0);
        Check.tell(x, "lines 1;");
        Check.due("none", x.fault(0), 0);
        Check.due("nowhere", x.fault(1), -1);
        Check.says("NONE for another what.");
        Check.tell(x, "lines 7;");
        for (int what : new int[] {2, 3, -1, -2, Integer.MAX_VALUE, Integer.MIN_VALUE}) {
            Check.due("fault(" + what + ")", x.fault(what), -1);
        }
    }

    private static void named() {
        Check.says("The number of a PERSON by its letters, 5 bits each (a is 1; the first one highest of six, 0 behind"
            + " the last one)");
        EngagedTone x = Check.of("man a 1 1;man zzzzzz 1 1;man ab 1 1;man abcde 1 1;man z 1 1;man aaaaaa 1 1;");
        Check.due("a", x.named(1 << 25), 0);
        Check.due("zzzzzz", x.named(26 << 25 | 26 << 20 | 26 << 15 | 26 << 10 | 26 << 5 | 26), 1);
        Check.due("ab", x.named(1 << 25 | 2 << 20), 2);
        Check.due("abcde", x.named(1 << 25 | 2 << 20 | 3 << 15 | 4 << 10 | 5 << 5), 3);
        Check.due("z", x.named(26 << 25), 4);
        Check.due("aaaaaa", x.named(1 << 25 | 1 << 20 | 1 << 15 | 1 << 10 | 1 << 5 | 1), 5);
        Check.says("NONE: there is none such.");
        Check.due("b", x.named(2 << 25), -1);
        Check.due("none", x.named(0), -1);
        Check.due("a, the last of six", x.named(1), -1);
        Check.due("aa", x.named(1 << 25 | 1 << 20), -1);
        Check.due("a and b, apart", x.named(1 << 25 | 2 << 15), -1);
        Check.due("a with the 31st bit", x.named(1 << 25 | 1 << 30), -1);
        Check.due("a with the sign", x.named(1 << 25 | 1 << 31), -1);
        Check.due("all bits", x.named(-1), -1);
        Check.due("no PEOPLE", new EngagedTone().named(0), -1);
    }
}
