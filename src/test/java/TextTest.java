/** Promises 1 to 5: a new object, feed, text, fault, named. */
final class TextTest {
    public static void main(String[] args) {
        aNewObject();
        feeding();
        telling();
        cutOffs();
        strayTokens();
        tooMuch();
        toldAlready();
        unknownPeople();
        theFirstFaultCounts();
        expressions();
        knots();
        names();
        Check.end();
    }

    private static void aNewObject() {
        EngagedTone x = new EngagedTone();
        for (int what = 0; what <= 14; what++) {
            Check.due("count(" + what + ") of a new object", x.count(what), 0);
        }
        Check.due("fault(0)", x.fault(0), 0);
        Check.due("fault(1)", x.fault(1), -1);
        Check.due("fault(2)", x.fault(2), -1);
        Check.due("fault(-1)", x.fault(-1), -1);
        Check.due("text(1) of an empty tape", x.text(1), -2);
        Check.due("text(0)", x.text(0), 0);
    }

    private static void feeding() {
        EngagedTone x = new EngagedTone();
        for (int i = 1; i <= 35; i++) {
            Check.due("feed " + i, x.feed(0x20202020, 0x0a0a0a0a, 0x20202020, 0x20202020, 0x20202020), 20 * i);
        }
        Check.due("feed 36", x.feed(0, 0, 0, 0, 0), -1);
        Check.due("text(701)", x.text(701), -2);
        Check.due("text(700)", x.text(700), 0);
        Check.due("feed behind a text", x.feed(0x616e643b, 0, 0, 0, 0), 20);
        Check.due("text of bytes in order", x.text(3), -1);
        Check.due("its fault", x.fault(0), 1);
        Check.due("its place", x.fault(1), 0);
    }

    private static void telling() {
        EngagedTone x = Check.of("man a 10 20;man b 1 2;tone a 0 2;ring b a 0 1;");
        Check.due("lines of it", Check.tell(x, "man c 1 1;\nman\ndd 2 2 ; lines 2;"), 3);
        Check.due("people", x.count(0), 2);
        Check.due("tones", x.count(1), 0);
        Check.due("rings", x.count(2), 0);
        x.go(3);
        x.hear(1, 0, true);
        x.known(0);
        x.keep();
        x.lend(0, 5);
        Check.due("a text with a fault", Check.tell(x, "man"), -1);
        Check.due("fault", x.fault(0), 1);
        Check.due("place", x.fault(1), 3);
        Check.due("text(-1)", x.text(-1), -2);
        Check.due("fault stays behind -2", x.fault(0), 1);
        Check.due("people stay", x.count(0), 2);
        Check.due("quarter stays", x.count(4), 3);
        Check.due("heard stays", x.count(12), 1);
        Check.due("undo stays", x.count(14), 1);
        Check.due("image stays", x.back(), 3);
        x.feed(0x20202020, 0x20202020, 0x20202020, 0x20202020, 0x20202020);
        Check.due("-2 keeps the tape", x.text(21), -2);
        Check.due("the tape stands", x.feed(0x20202020, 0, 0, 0, 0), 40);
        Check.due("text(4)", x.text(4), 0);
        Check.due("the tape is empty", x.feed(0, 0, 0, 0, 0), 20);
        Check.due("quarter 0", x.count(4), 0);
        Check.due("nothing heard", x.count(12), 0);
        Check.due("nothing to undo", x.undo(), -1);
        Check.due("no image", x.back(), -1);
        Check.due("no fault", x.fault(0), 0);
        Check.due("no place", x.fault(1), -1);
        Check.due("no person", x.named(0x02000000), -1);
    }

    /** What stands on the tape behind the text's end is not looked at. */
    private static void cutOff(String tape, int n, int kind, int place) {
        EngagedTone x = new EngagedTone();
        Check.feed(x, tape);
        Check.due("text(" + n + ") of '" + tape + "'", x.text(n), kind == 0 ? 1 : -1);
        Check.due("its fault", x.fault(0), kind);
        Check.due("its place", x.fault(1), place);
    }

    private static void cutOffs() {
        cutOff("law again 1<=2;", 12, 1, 12);
        cutOff("law again 1<>2;", 12, 1, 12);
        cutOff("law again 1>=2;", 12, 1, 12);
        cutOff("lines 12;", 7, 1, 7);
        cutOff("lines 1;lines 1;", 8, 0, -1);
        cutOff("lines 1;$", 8, 0, -1);
        cutOff("lines 1;lines 1;", 9, 1, 8);
        cutOff("man abcdefgh 1 1;", 10, 1, 10);
        cutOff("man a 1 1;", 2, 1, 0);
    }

    private static void strayTokens() {
        Check.fault("man a 1 1", 1, 9);
        Check.fault("man a 1 1  ", 1, 11);
        Check.fault("man a 1", 1, 7);
        Check.fault("man", 1, 3);
        Check.fault(";", 1, 0);
        Check.fault("Man a 1 1;", 1, 0);
        Check.fault("man a 1 1;;", 1, 10);
        Check.fault("man a 1 1 1;", 1, 10);
        Check.fault("man abcdefg 1 1;", 1, 4);
        Check.fault("man tone 1 1;", 1, 4);
        Check.fault("man again 1 1;", 1, 4);
        Check.fault("man not 1 1;", 1, 4);
        Check.fault("man time 1 1;", 1, 4);
        Check.fault("man 5 1 1;", 1, 4);
        Check.fault("man a a 1;", 1, 6);
        Check.fault("man a\t1 1;", 1, 5);
        Check.fault("man a\u00e91 1;", 1, 5);
        Check.fault("anna 1;", 1, 0);
        Check.fault("tone 1 1 1;", 1, 5);
        Check.fault("price a 1;", 1, 6);
        Check.fault("lines;", 1, 5);
        Check.fault("seed -1;", 1, 5);
        Check.fault("law turn 1;", 1, 4);
        Check.fault("law again;", 1, 9);
        Check.fault("law", 1, 3);
        Check.fine("man abcdef 1 1;man a1 1;", 2);
        Check.fine("man timex 1 1;man no 1 1;", 2);
        Check.fine("", 0);
        Check.fine(" \n ", 0);
    }

    private static void tooMuch() {
        String six = "man a 1 1;man b 1 1;man c 1 1;man d 1 1;man e 1 1;man f 1 1;";
        Check.fine(six, 6);
        Check.fault(six + "man", 2, 60);
        Check.fault(six + "man a 1 1;", 2, 60);
        String tones = "tone a 0 1;tone a 0 1;tone a 0 1;tone a 0 1;tone a 0 1;tone a 0 1;tone a 0 1;tone a 0 1;";
        Check.fine(six + tones, 14);
        Check.fault(six + tones + "tone x", 2, 148);
        String prices = "price 0 1;price 0 1;price 0 1;price 0 1;price 0 1;price 0 1;";
        Check.fine(prices, 6);
        Check.fault(prices + "price 0 1;", 2, 60);
        String rings = "ring a b 0 1;ring a b 0 1;ring a b 0 1;ring a b 0 1;ring a b 0 1;";
        Check.fine(six + rings + rings, 16);
        Check.fault(six + rings + rings + "ring a a", 2, 190);
        Check.fine("man a 99 999;man b 0 0;tone a 99 16;price 99 99;ring a b 99 9;lines 6;tries 9;seed 99999;", 8);
        Check.fine("man a 000099 0999;", 1);
        Check.fault("man a 100 1;", 2, 6);
        Check.fault("man a 1 1000;", 2, 8);
        Check.fault("man a 99999999999999999999 1;", 2, 6);
        Check.fault("man a 1 1;tone a 100 1;", 2, 17);
        Check.fault("man a 1 1;tone a 1 0;", 2, 19);
        Check.fault("man a 1 1;tone a 1 17;", 2, 19);
        Check.fault("price 100 1;", 2, 6);
        Check.fault("price 1 100;", 2, 8);
        Check.fault("man a 1 1;man b 1 1;ring a b 100 1;", 2, 29);
        Check.fault("man a 1 1;man b 1 1;ring a b 1 0;", 2, 31);
        Check.fault("man a 1 1;man b 1 1;ring a b 1 10;", 2, 31);
        Check.fault("lines 0;", 2, 6);
        Check.fault("lines 7;", 2, 6);
        Check.fault("tries 0;", 2, 6);
        Check.fault("tries 10;", 2, 6);
        Check.fault("seed 100000;", 2, 5);
    }

    private static void toldAlready() {
        Check.fault("man a 1 1;man a 1 1;", 3, 14);
        Check.fault("lines 1;lines 7;", 3, 8);
        Check.fault("tries 1;tries", 3, 8);
        Check.fault("seed 0;seed 0;", 3, 7);
        Check.fault("law fame 1;law fame 1;", 3, 15);
        Check.fault("law dear 1;law again 1;law dear", 3, 27);
        Check.fine("law fame 1;law again 1;law dear 1;lines 3;tries 3;seed 0;", 6);
        Check.fine("price 3 1;price 3 1;", 2);
    }

    private static void unknownPeople() {
        Check.fault("tone a 1 1;man a 1 1;", 4, 5);
        Check.fault("man a 1 1;ring b a 1 1;", 4, 15);
        Check.fault("man a 1 1;ring a b 1 1;", 4, 17);
        Check.fault("man a 1 1;ring a a 1 1;", 5, 17);
        Check.fault("man a 1 1;ring b b 1 1;", 4, 15);
        Check.fault("man a 1 1;ring a 1 1;", 1, 17);
    }

    private static void theFirstFaultCounts() {
        Check.fault("man a 100 $;", 2, 6);
        Check.fault("man a $ 1000;", 1, 6);
        Check.fault("lines 7;lines 7;", 2, 6);
        Check.fault("man a 1 1;ring a a 100 0;", 5, 17);
    }

    private static void expressions() {
        Check.fine("law again 1;", 1);
        Check.fine("law again(1);", 1);
        Check.fine("law again not not not 1;", 1);
        Check.fine("law again not(not 1)and not 2 or not 3<4;", 1);
        Check.fine("law again 1<2and 3>=4or turn<>vain;", 1);
        Check.fine("law again (1<2)<3;", 1);
        Check.fine("law again ((((((((1))))))))+((((((((1))))))));", 1);
        Check.fault("law again (((((((((1)))))))));", 2, 18);
        Check.fault("law again 1<2<3;", 1, 13);
        Check.fault("law again 1<2+3*4=3;", 1, 17);
        Check.fault("law again not 1<2>3;", 1, 17);
        Check.fault("law again 1 not 2;", 1, 12);
        Check.fault("law again 1 + not 2;", 1, 14);
        Check.fault("law again 1 < not 2;", 1, 14);
        Check.fault("law again 1 * (not 2) not;", 1, 22);
        Check.fault("law again 1 2;", 1, 12);
        Check.fault("law again 1);", 1, 11);
        Check.fault("law again (1;", 1, 12);
        Check.fault("law again (1", 1, 12);
        Check.fault("law again ();", 1, 11);
        Check.fault("law again 1(2);", 1, 11);
        Check.fault("law again -1;", 1, 10);
        Check.fault("law again 1 and;", 1, 15);
        Check.fault("law again and 1;", 1, 10);
        Check.fault("law again 1 = = 1;", 1, 14);
        Check.fault("law again 1 < = 1;", 1, 14);
        Check.fault("law again 1 => 1;", 1, 13);
        Check.fault("law again 1 >< 1;", 1, 13);
        Check.fault("law again man;", 1, 10);
        Check.fault("law again anna;", 1, 10);
        Check.fault("law again fame;", 1, 10);
        Check.fault("law again 1 $;", 1, 12);
        Check.fine("law again 9999;", 1);
        Check.fault("law again 1+10000;", 2, 12);
    }

    private static void knots() {
        StringBuilder sum = new StringBuilder("law again 1");
        for (int i = 1; i < 32; i++) {
            sum.append("+1");
        }
        EngagedTone x = Check.of(sum + ";");
        Check.due("63 knots", x.count(3), 63);
        Check.fine(sum + ";law fame 1;", 2);
        Check.fault(sum + ";law fame 1;law dear 1;", 2, sum.length() + 21);
        Check.fault(sum + "+1;", 2, sum.length() + 1);
        Check.fault(sum + ";law fame not 1;", 2, sum.length() + 14);
        Check.fault(sum + ";law fame 1<not 1;", 2, sum.length() + 11);
        Check.fault(sum + ";law fame 1;law dear +;", 1, sum.length() + 21);
        Check.fault(sum + ";law fame not not", 2, sum.length() + 14);
        String nots = "not not not not not not not not not ";
        String deep = "man a 1 1;law fame ((((((((" + nots + nots + nots + nots + nots + nots + nots + "1))))))));";
        EngagedTone z = Check.of(deep);
        Check.due("64 knots", z.count(3), 64);
        Check.due("63 times not 1", z.law(1, 0), 0);
        EngagedTone y = Check.of("law again (turn + 2) * 3 <> (not 4 and 5) or 6;");
        Check.due("knots without brackets", y.count(3), 12);
    }

    private static void names() {
        EngagedTone x = Check.of("man a 1 1;man zebras 1 1;man ab 1 1;");
        Check.due("a", x.named(1 << 25), 0);
        Check.due("zebras", x.named(26 << 25 | 5 << 20 | 2 << 15 | 18 << 10 | 1 << 5 | 19), 1);
        Check.due("ab", x.named(1 << 25 | 2 << 20), 2);
        Check.due("b", x.named(2 << 25), -1);
        Check.due("none", x.named(0), -1);
        Check.due("too high", x.named(1 << 25 | 1 << 30), -1);
        Check.due("below 0", x.named(-1), -1);
        Check.due("a last", x.named(1), -1);
    }
}
