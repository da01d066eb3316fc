/** Each sentence on the TEXT and what it may tell that names an edge, in the document's order. */
final class GrammarEdgesTest {
    private static final String[] LANGUAGE = ("man tone price ring lines tries seed law again fame dear or and not "
        + "turn vain purse busy known cost time").split(" ");
    private static final String MEANINGS = " turn vain purse busy known cost time ";
    private static final String AB = "man a 1 1;man b 1 1;";
    private static final String SIX = AB + "man c 1 1;man d 1 1;man e 1 1;man f 1 1;";

    public static void main(String[] args) {
        texts();
        lines();
        rules();
        words();
        blanks();
        logic();
        comparisons();
        sums();
        operands();
        numbersOfExpressions();
        joinedSigns();
        people();
        tones();
        prices();
        pricesThatCount();
        calls();
        numberOfLines();
        numberOfTries();
        seeds();
        numbered();
        Check.end();
    }

    private static void texts() {
        Check.says("A TEXT: { LINE ';' }.");
        Check.fine("", 0);
        Check.fine(" \n \n", 0);
        Check.fine("lines 1;", 1);
        Check.fine("lines 1;tries 1;seed 0;price 0 0;price 0 0;", 5);
        Check.faultAt(1, "^;");
        Check.faultAt(1, "lines 1;^;");
        Check.faultAt(1, "lines 1^");
        Check.faultAt(1, "lines 1 ^tries 1;");
    }

    private static void lines() {
        Check.says("LINE: man W N N | tone W N N | price N N | ring W W N N | lines N | tries N | seed N | law RULE E.");
        Check.faultAt(1, "man a 1^;");
        Check.faultAt(1, "man a 1 1 ^1;");
        Check.faultAt(1, "man ^1 1;");
        Check.faultAt(1, AB + "tone a 1^;");
        Check.faultAt(1, AB + "tone a 1 1 ^1;");
        Check.faultAt(1, AB + "tone a ^b 1 1;");
        Check.faultAt(1, "price 1^;");
        Check.faultAt(1, "price 1 1 ^1;");
        Check.faultAt(1, AB + "ring a ^1 1;");
        Check.faultAt(1, AB + "ring a b 1^;");
        Check.faultAt(1, AB + "ring a b 1 1 ^1;");
        Check.faultAt(1, "lines^;");
        Check.faultAt(1, "lines 1 ^1;");
        Check.faultAt(1, "tries^;");
        Check.faultAt(1, "tries 1 ^1;");
        Check.faultAt(1, "seed^;");
        Check.faultAt(1, "seed 1 ^1;");
        Check.faultAt(1, "law again^;");
        Check.faultAt(1, "law again 1 ^1;");
        Check.faultAt(1, "^abc 1;");
        Check.faultAt(1, "^1;");
    }

    private static void rules() {
        Check.says("RULE: again | fame | dear.");
        Check.fine("law again 1;law fame 1;law dear 1;", 3);
        Check.faultAt(1, "law ^1;");
        Check.faultAt(1, "law ^a 1;");
        for (String word : LANGUAGE) {
            if (!" again fame dear ".contains(" " + word + " ")) {
                Check.faultAt(1, "law ^" + word + " 1;");
            }
        }
    }

    private static void words() {
        Check.says("Words: small letters in a row; W: one of 1 .. 6 letters, none of those of the language; N: digits.");
        Check.fine("man a 1 1;man z 1 1;man abcdef 1 1;man zzzzzz 1 1;", 4);
        Check.faultAt(1, "man ^abcdefg 1 1;");
        Check.faultAt(1, "man ^abcdefghijklmnopqrstuvwxyzabcdefghijklmnopqrstuvwxyz 1 1;");
        Check.faultAt(1, "man ^A 1 1;");
        Check.faultAt(1, "man a^A 1 1;");
        Check.faultAt(1, "man ^` 1 1;");
        Check.faultAt(1, "man ^{ 1 1;");
        Check.faultAt(1, "man a^_b 1 1;");
        Check.faultAt(1, "man a ^b 1 1;");
        for (String word : LANGUAGE) {
            Check.faultAt(1, "man ^" + word + " 1 1;");
            Check.faultAt(1, AB + "tone ^" + word + " 1 1;");
            Check.faultAt(1, AB + "ring ^" + word + " a 1 1;");
            Check.faultAt(1, AB + "ring a ^" + word + " 1 1;");
            Check.fine("man " + word + "x 1 1;man x" + word + " 1 1;", 2);
        }
        Check.fine("man a1 1;price0 0;lines1;", 3);
        Check.fine("man a 00000000000000000000000000000001 0000;", 1);
        Check.faultAt(1, "man a 1^.0 1;");
        Check.faultAt(1, "man a ^/ 1;");
        Check.faultAt(1, "man a ^: 1;");
    }

    private static void blanks() {
        Check.says("Blanks 10, 32.");
        Check.fine("\n man\n\na \n1 1\n; ", 1);
        for (int sign = 0; sign < 256; sign++) {
            boolean isBlank = sign == 10 || sign == 32;
            EngagedTone x = new EngagedTone();
            Check.due("sign " + sign + " ahead", Check.tell(x, (char) sign + "lines 1;"), isBlank ? 1 : -1);
            Check.due("sign " + sign + " behind", Check.tell(x, "lines 1;" + (char) sign), isBlank ? 1 : -1);
            Check.due("place of sign " + sign, x.fault(1), isBlank ? -1 : 8);
        }
        Check.faultAt(1, "^li nes 1;");
        Check.faultAt(1, "lines 1 ^2;");
    }

    private static void logic() {
        Check.says("E: A { or A }. A: B { and B }. B: not B | C.");
        Check.fine("law again 1 or 1 or 1 and 1 and 1;", 1);
        Check.fine("law again not not 1 and not 1 or not not not 1;", 1);
        Check.faultAt(1, "law again ^or 1;");
        Check.faultAt(1, "law again ^and 1;");
        Check.faultAt(1, "law again 1 or^;");
        Check.faultAt(1, "law again 1 and^;");
        Check.faultAt(1, "law again 1 or ^or 1;");
        Check.faultAt(1, "law again 1 and ^or 1;");
        Check.faultAt(1, "law again not^;");
        Check.faultAt(1, "law again not ^and 1;");
        Check.faultAt(1, "law again 1 ^not 1;");
        Check.faultAt(1, "law again (1 ^not 1);");
    }

    private static void comparisons() {
        Check.says("C: S [ ( < | <= | = | <> | >= | > ) S ].");
        String[] compare = "< <= = <> >= >".split(" ");
        for (String one : compare) {
            Check.fine("law again 1 " + one + " 1;", 1);
            Check.faultAt(1, "law again ^" + one + " 1;");
            Check.faultAt(1, "law again 1 " + one + "^;");
            Check.faultAt(1, "law again 1 " + one + " ^not 1;");
            Check.fine("law again 1 " + one + " (not 1);", 1);
            for (String other : compare) {
                Check.faultAt(1, "law again 1 " + one + " 1 ^" + other + " 1;");
                Check.faultAt(1, "law again 1 " + one + " 1+1*1 ^" + other + " 1;");
                Check.faultAt(1, "law again not 1 " + one + " (1) ^" + other + " 1;");
                Check.fine("law again 1 " + one + " 1 and 1 " + other + " 1;", 1);
                Check.fine("law again (1 " + one + " 1) " + other + " (1 " + one + " 1);", 1);
            }
        }
    }

    private static void sums() {
        Check.says("S: T { ( + | - ) T }. T: P { ( * | / ) P }.");
        for (String sign : "+ - * /".split(" ")) {
            Check.fine("law again 1 " + sign + " 1 " + sign + " 1;", 1);
            Check.faultAt(1, "law again ^" + sign + " 1;");
            Check.faultAt(1, "law again (^" + sign + " 1);");
            Check.faultAt(1, "law again 1 " + sign + "^;");
            Check.faultAt(1, "law again 1 " + sign + " ^" + sign + " 1;");
            Check.faultAt(1, "law again 1 " + sign + " ^not 1;");
        }
    }

    private static void operands() {
        Check.says("P: N | NAME | '(' E ')'");
        Check.fine("law again(1);", 1);
        Check.fine("law again((((not 1 or(1)))));", 1);
        Check.faultAt(1, "law again (^);");
        Check.faultAt(1, "law again (1^;");
        Check.faultAt(1, "law again (1 ^1);");
        Check.faultAt(1, "law again 1^);");
        Check.faultAt(1, "law again (1)^);");
        Check.faultAt(1, "law again ^);");
        Check.faultAt(1, "law again 1 ^(1);");
        Check.faultAt(1, "law again (1)^(1);");
        Check.faultAt(1, "law again turn ^turn;");
        Check.says("NAME: turn vain purse busy known cost time.");
        for (String word : LANGUAGE) {
            if (MEANINGS.contains(" " + word + " ")) {
                Check.fine("law again " + word + ";", 1);
            } else if (!word.equals("not")) {
                Check.faultAt(1, "law again ^" + word + ";");
            }
        }
        Check.faultAt(1, AB + "law again ^a;");
    }

    private static void numbersOfExpressions() {
        Check.says("N of E 0 .. 9999.");
        EngagedTone x = Check.of("man a 1 1;law fame 9999;");
        Check.due("9999", x.law(1, 0), 9999);
        EngagedTone y = Check.of("man a 1 1;law fame 0;");
        Check.due("0", y.law(1, 0), 0);
        Check.fine("law again 0000009999;", 1);
        Check.faultAt(2, "law again ^10000;");
        Check.faultAt(2, "law again (1+^10000);");
        Check.faultAt(2, "law again ^4294967296;");
        Check.faultAt(2, "law again ^18446744073709551617;");
    }

    private static void joinedSigns() {
        Check.says("A = (or > behind <) right behind < or > belongs to it.");
        EngagedTone x = Check.of("man a 1 1;law fame 3<=3 and 3>=3 and 2<>3;");
        Check.due("3<=3 and 3>=3 and 2<>3", x.law(1, 0), 1);
        Check.due("each is one knot", x.count(3), 11);
        Check.faultAt(1, "law again 1< ^=1;");
        Check.faultAt(1, "law again 1> ^=1;");
        Check.faultAt(1, "law again 1< ^>1;");
        Check.faultAt(1, "law again 1<\n^=1;");
        Check.faultAt(1, "law again 1=^<1;");
        Check.faultAt(1, "law again 1=^>1;");
        Check.faultAt(1, "law again 1=^=1;");
        Check.faultAt(1, "law again 1>^<1;");
        Check.faultAt(1, "law again 1>^>1;");
        Check.faultAt(1, "law again 1<^<1;");
        Check.faultAt(1, "law again 1<=^=1;");
        Check.faultAt(1, "law again 1<>^=1;");
        Check.faultAt(1, "law again 1<=^>1;");
        Check.faultAt(1, "law again 1>=^=1;");
        Check.faultAt(1, "law again 1>=^>1;");
    }

    private static void people() {
        Check.says("PEOPLE (man), at most 6: VAIN 0 .. 99, PURSE 0 .. 999.");
        Check.fine(SIX, 6);
        Check.faultAt(2, SIX + "^man g 1 1;");
        EngagedTone x = Check.of("man a 0 0;man b 99 999;");
        Check.due("vain of a", x.man(0, 0), 0);
        Check.due("purse of a", x.man(0, 1), 0);
        Check.due("vain of b", x.man(1, 0), 99);
        Check.due("purse of b", x.man(1, 1), 999);
        Check.faultAt(2, "man a ^100 0;");
        Check.faultAt(2, "man a 0 ^1000;");
        Check.faultAt(1, "man a ^-1 0;");
    }

    private static void tones() {
        Check.says("TONES, at most 8: of a PERSON, from a QUARTER 0 .. 99 on, for 1 .. 16 QUARTERS.");
        String eight = AB + "tone a 0 1;tone a 0 1;tone a 0 1;tone a 0 1;tone b 0 1;tone b 0 1;tone b 0 1;tone b 0 1;";
        Check.fine(eight, 10);
        Check.faultAt(2, eight + "^tone a 0 1;");
        EngagedTone x = Check.of(AB + "tone a 0 1;tone b 99 16;");
        Check.due("from", x.tone(0, 1), 0);
        Check.due("for", x.tone(0, 2), 1);
        Check.due("from", x.tone(1, 1), 99);
        Check.due("for", x.tone(1, 2), 16);
        Check.faultAt(2, AB + "tone a ^100 1;");
        Check.faultAt(2, AB + "tone a 0 ^0;");
        Check.faultAt(2, AB + "tone a 0 ^17;");
    }

    private static void prices() {
        Check.says("price: from a QUARTER 0 .. 99 on a PRICE 0 .. 99 for each QUARTER of a TONE, at most 6");
        String six = "price 0 1;price 1 1;price 2 1;price 3 1;price 4 1;price 4 2;";
        Check.fine(six, 6);
        Check.faultAt(2, six + "^price 5 1;");
        EngagedTone x = Check.of("price 0 0;price 99 99;");
        Check.due("price(0)", x.price(0), 0);
        Check.due("price(98)", x.price(98), 0);
        Check.due("price(99)", x.price(99), 99);
        Check.faultAt(2, "price ^100 1;");
        Check.faultAt(2, "price 1 ^100;");
    }

    private static void pricesThatCount() {
        Check.says("(5 ahead of all; of several that are not later than a QUARTER the latest one counts, of like ones"
            + " the last told)");
        Check.due("without any", new EngagedTone().price(0), 5);
        EngagedTone x = Check.of("price 7 70;price 3 30;price 7 71;price 5 50;price 3 31;");
        Check.due("ahead of all", x.price(2), 5);
        Check.due("of like ones the last told", x.price(3), 31);
        Check.due("not yet the next", x.price(4), 31);
        Check.due("the latest, told in between", x.price(5), 50);
        Check.due("not yet the next", x.price(6), 50);
        Check.due("of like ones the last told, though others are told behind", x.price(7), 71);
        Check.due("for good", x.price(9999), 71);
    }

    private static void calls() {
        Check.says("CALLS (ring), at most 10: of a PERSON to another one, at a QUARTER 0 .. 99, LONG 1 .. 9 QUARTERS.");
        String five = "ring a b 0 1;ring a b 0 1;ring a b 0 1;ring a b 0 1;ring a b 0 1;";
        Check.fine(AB + five + five, 12);
        Check.faultAt(2, AB + five + five + "^ring a b 0 1;");
        EngagedTone x = Check.of(AB + "ring a b 0 1;ring b a 99 9;");
        Check.due("at", x.ring(0, 2), 0);
        Check.due("long", x.ring(0, 3), 1);
        Check.due("at", x.ring(1, 2), 99);
        Check.due("long", x.ring(1, 3), 9);
        Check.faultAt(2, AB + "ring a b ^100 1;");
        Check.faultAt(2, AB + "ring a b 0 ^0;");
        Check.faultAt(2, AB + "ring a b 0 ^10;");
    }

    private static void numberOfLines() {
        Check.says("lines: 1 .. 6 (3 without).");
        Check.fine("lines 1;", 1);
        Check.fine("lines 6;", 1);
        Check.faultAt(2, "lines ^0;");
        Check.faultAt(2, "lines ^7;");
        String three = SIX + "ring a b 0 2;ring c d 0 2;ring e f 0 2;";
        Check.due("three speak without", Check.of(three, 1).count(6), 3);
        Check.due("one speaks by 1", Check.of(three + "lines 1;", 1).count(6), 1);
        Check.due("two speak by 2", Check.of(three + "lines 2;", 1).count(6), 2);
        Check.due("three speak by 6", Check.of(three + "lines 6;", 1).count(6), 3);
    }

    private static void numberOfTries() {
        Check.says("tries: how often a CALL is tried, 1 .. 9 (3 without).");
        Check.fine("tries 1;", 1);
        Check.fine("tries 9;", 1);
        Check.faultAt(2, "tries ^0;");
        Check.faultAt(2, "tries ^10;");
        String busy = AB + "tone b 0 16;law dear 0;ring a b 0 1;";
        Check.due("not twice without", Check.of(busy, 2).ring(0, 4), 0);
        Check.due("thrice without", Check.of(busy, 3).ring(0, 4), 3);
        Check.due("once by 1", Check.of(busy + "tries 1;", 1).ring(0, 4), 3);
        Check.due("not eight times by 9", Check.of(busy + "tries 9;", 8).ring(0, 4), 0);
        Check.due("nine times by 9", Check.of(busy + "tries 9;", 9).ring(0, 4), 3);
    }

    private static void seeds() {
        Check.says("seed: 0 .. 99999 (0).");
        Check.fine("seed 0;", 1);
        Check.fine("seed 99999;", 1);
        Check.faultAt(2, "seed ^100000;");
    }

    private static void numbered() {
        Check.says("All numbered as they come; PEOPLE have names.");
        EngagedTone x = Check.of("man b 7 8;man a 5 6;ring a b 3 4;tone a 1 2;ring b a 4 5;tone b 2 3;");
        Check.due("b", x.named(2 << 25), 0);
        Check.due("a", x.named(1 << 25), 1);
        Check.due("the first call's one", x.ring(0, 0), 1);
        Check.due("the first call's other", x.ring(0, 1), 0);
        Check.due("the second call's one", x.ring(1, 0), 0);
        Check.due("the second call's other", x.ring(1, 1), 1);
        Check.due("the first tone", x.tone(0, 0), 1);
        Check.due("the second tone", x.tone(1, 0), 0);
    }
}
