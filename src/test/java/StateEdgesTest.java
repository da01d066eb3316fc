/** Each sentence of promises 6 to 9, 15 and 38 that names an edge, in the document's order. */
final class StateEdgesTest {
    private static final int[] WILD = {Integer.MIN_VALUE, Integer.MIN_VALUE + 1, -100, -2, 100, 1 << 16, 1 << 30,
        Integer.MAX_VALUE};
    private static final String AB = "man a 50 99;man b 20 99;";
    private static final String TEN = AB + "ring a b 0 1;".repeat(9) + "ring b a 7 9;";

    public static void main(String[] args) {
        used512Times();
        rings();
        ringDue();
        noSuchCall();
        noSuchWhatOfCalls();
        people();
        noSuchPeople();
        tones();
        noSuchTones();
        prices();
        going();
        noSuchGoing();
        notBehind9900();
        counts();
        noSuchCount();
        Check.end();
    }

    private static void used512Times() {
        Check.says("An object is used for at most 512 calls after it has been made");
        EngagedTone x = new EngagedTone();
        Check.tell(x, AB + "tone a 0 2;ring b a 5 2;");
        x.keep();
        int calls = 5;
        while (calls < 507) {
            Check.due("put", x.put(0, 8), true);
            Check.due("through", x.through(0), 9);
            Check.due("go", x.go(9), 9);
            Check.due("hang", x.hang(0), 1);
            Check.due("back", x.back(), 0);
            calls += 5;
        }
        Check.due("lend", x.lend(0, 1), 100);
        Check.due("paid ahead", x.ahead(9, 2, 0), 10);
        Check.due("undo", x.undo(), 0);
        Check.due("purse", x.man(0, 1), 99);
        Check.due("the 512th", x.count(2), 1);
    }

    private static void rings() {
        Check.says("Of a CALL now, what 0 who calls, 1 whom, 2 the QUARTER at which it is due (first or again; of one"
            + " THROUGH: at which it got so), 3 LONG, 4: 0 WAITING, 1 SPEAKING, 2 OVER, 3 GIVEN UP, 5 how often it was TRIED.");
        EngagedTone x = Check.of(AB + "tone b 5 2;ring a b 5 9;law again 2;");
        int[][] want = {{0, 1, 5, 9, 0, 0}, {0, 1, 7, 9, 0, 1}, {0, 1, 7, 9, 1, 2}, {0, 1, 7, 9, 2, 2}};
        int[] quarters = {5, 6, 8, 17};
        for (int i = 0; i < want.length; i++) {
            x.go(quarters[i] - x.count(4));
            for (int what = 0; what < 6; what++) {
                Check.due("ring(0, " + what + ") at " + quarters[i], x.ring(0, what), want[i][what]);
            }
        }
        EngagedTone y = Check.of(AB + "tone b 5 2;ring a b 5 9;tries 1;", 6);
        int[] givenUp = {0, 1, 5, 9, 3, 1};
        for (int what = 0; what < 6; what++) {
            Check.due("ring(0, " + what + ") given up", y.ring(0, what), givenUp[what]);
        }
    }

    private static void ringDue() {
        Check.says("2 the QUARTER at which it is due (first or again; of one THROUGH: at which it got so)");
        EngagedTone x = Check.of(AB + "tone a 3 1;ring b a 3 2;law again 4;", 3);
        Check.due("first", x.ring(0, 2), 3);
        x.go(1);
        Check.due("again", x.ring(0, 2), 7);
        x.go(4);
        Check.due("speaking since", x.ring(0, 2), 7);
        x.go(9);
        Check.due("over, it got through", x.ring(0, 2), 7);
        EngagedTone y = Check.of(AB + "ring b a 3 9;", 5);
        y.hang(0);
        Check.due("hung up, it got through", y.ring(0, 2), 3);
    }

    private static void noSuchCall() {
        Check.says("IndexOutOfBoundsException: no such CALL.");
        EngagedTone x = Check.of(TEN);
        Check.due("the last one", Check.ring(x, 9, 3), 9);
        for (int what = -1; what <= 6; what++) {
            Check.due("ring(10, " + what + ")", Check.ring(x, 10, what), Check.NO_INDEX);
            Check.due("ring(-1, " + what + ")", Check.ring(x, -1, what), Check.NO_INDEX);
            for (int ring : WILD) {
                Check.due("ring(" + ring + ", " + what + ")", Check.ring(x, ring, what), Check.NO_INDEX);
            }
        }
        Check.due("without calls", Check.ring(Check.of(AB), 0, 0), Check.NO_INDEX);
        Check.due("of a text with fewer", Check.ring(Check.of(AB + "ring a b 0 1;"), 1, 0), Check.NO_INDEX);
        Check.tell(x, AB + "ring a b 0 1;");
        Check.due("of the text ahead", Check.ring(x, 1, 0), Check.NO_INDEX);
    }

    private static void noSuchWhatOfCalls() {
        Check.says("NoSuchElementException: no such what.");
        EngagedTone x = Check.of(TEN);
        Check.due("ring(0, 5)", Check.ring(x, 0, 5), 0);
        Check.due("ring(0, 0)", Check.ring(x, 0, 0), 0);
        Check.due("ring(0, 6)", Check.ring(x, 0, 6), Check.NO_ELEMENT);
        Check.due("ring(0, -1)", Check.ring(x, 0, -1), Check.NO_ELEMENT);
        Check.due("ring(9, 6)", Check.ring(x, 9, 6), Check.NO_ELEMENT);
        for (int what : WILD) {
            Check.due("ring(0, " + what + ")", Check.ring(x, 0, what), Check.NO_ELEMENT);
        }
        x.go(1);
        Check.due("nothing is changed by it", x.ring(0, 4), 1);
    }

    private static void people() {
        Check.says("3 whether ENGAGED (1, 0), 4 in which CALL it is (NONE: none).");
        EngagedTone x = Check.of(AB + "man c 0 0;tone c 0 1;ring b a 1 1;ring a b 0 1;law dear 0;");
        for (int man = 0; man < 3; man++) {
            Check.due("not engaged", x.man(man, 3), 0);
            Check.due("in no call", x.man(man, 4), -1);
        }
        x.go(1);
        Check.due("a calls", x.man(0, 4), 1);
        Check.due("b is called", x.man(1, 4), 1);
        Check.due("c is engaged", x.man(2, 3), 1);
        Check.due("but in no call", x.man(2, 4), -1);
        x.go(1);
        Check.due("a is called", x.man(0, 4), 0);
        Check.due("b calls", x.man(1, 4), 0);
        x.go(1);
        Check.due("over", x.man(0, 4), -1);
        Check.due("over", x.man(0, 3), 0);
    }

    private static void noSuchPeople() {
        Check.says("`int man(int man, int what)`: Of a PERSON now, what 0 VAIN, 1 PURSE, 2 FAME, 3 whether ENGAGED (1, 0),"
            + " 4 in which CALL it is (NONE: none). NONE: no such ones.");
        EngagedTone x = Check.of("man a 1 1;man b 1 1;man c 1 1;man d 1 1;man e 1 1;man f 7 8;");
        Check.due("the last one", x.man(5, 0), 7);
        for (int what = 0; what < 5; what++) {
            Check.due("man(6, " + what + ")", x.man(6, what), -1);
            Check.due("man(-1, " + what + ")", x.man(-1, what), -1);
            for (int man : WILD) {
                Check.due("man(" + man + ", " + what + ")", x.man(man, what), -1);
            }
        }
        Check.due("man(0, 5)", x.man(0, 5), -1);
        Check.due("man(0, -1)", x.man(0, -1), -1);
        for (int what : WILD) {
            Check.due("man(0, " + what + ")", x.man(0, what), -1);
        }
        Check.due("of fewer", Check.of(AB).man(2, 0), -1);
        Check.due("of none", new EngagedTone().man(0, 0), -1);
    }

    private static void tones() {
        Check.says("3: 0 to begin, 1 it runs, 2 ended, 3 DEAD.");
        EngagedTone x = Check.of("man a 1 5;tone a 1 1;tone a 2 1;", 1);
        Check.due("to begin", x.tone(0, 3), 0);
        x.go(1);
        Check.due("it runs", x.tone(0, 3), 1);
        x.go(1);
        Check.due("ended", x.tone(0, 3), 2);
        Check.due("dead", x.tone(1, 3), 3);
    }

    private static void noSuchTones() {
        Check.says("Of a TONE now, what 0 whose, 1 from, 2 for how many QUARTERS, 3: 0 to begin, 1 it runs, 2 ended, 3"
            + " DEAD. NONE: no such ones.");
        EngagedTone x = Check.of("man a 1 5;" + "tone a 1 1;".repeat(7) + "tone a 9 8;");
        Check.due("the last one", x.tone(7, 2), 8);
        for (int what = 0; what < 4; what++) {
            Check.due("tone(8, " + what + ")", x.tone(8, what), -1);
            Check.due("tone(-1, " + what + ")", x.tone(-1, what), -1);
            for (int tone : WILD) {
                Check.due("tone(" + tone + ", " + what + ")", x.tone(tone, what), -1);
            }
        }
        Check.due("tone(0, 4)", x.tone(0, 4), -1);
        Check.due("tone(0, -1)", x.tone(0, -1), -1);
        for (int what : WILD) {
            Check.due("tone(0, " + what + ")", x.tone(0, what), -1);
        }
        EngagedTone y = Check.of("man a 1 5;tone a 1 1;");
        Check.due("of fewer", y.tone(1, 0), -1);
        y.buy(0, 3, 2);
        Check.due("bought", y.tone(1, 1), 3);
        y.undo();
        Check.due("undone", y.tone(1, 1), -1);
    }

    private static void prices() {
        Check.says("PRICE of a QUARTER 0 .. 9999; NONE: no such one.");
        EngagedTone x = Check.of("price 1 2;price 99 3;");
        Check.due("price(0)", x.price(0), 5);
        Check.due("price(1)", x.price(1), 2);
        Check.due("price(9999)", x.price(9999), 3);
        Check.due("price(10000)", x.price(10000), -1);
        Check.due("price(-1)", x.price(-1), -1);
        Check.due("price of the most", x.price(Integer.MAX_VALUE), -1);
        Check.due("price of the least", x.price(Integer.MIN_VALUE), -1);
        x.go(9);
        Check.due("of one gone by", x.price(0), 5);
    }

    private static void going() {
        Check.says("So many QUARTERS (0 .. 99) go by: which one it is");
        EngagedTone x = Check.of(AB + "ring a b 0 9;");
        Check.due("go(0)", x.go(0), 0);
        Check.due("none went by", x.ring(0, 4), 0);
        Check.due("go(1)", x.go(1), 1);
        Check.due("one went by", x.ring(0, 4), 1);
        Check.due("go(0)", x.go(0), 1);
        Check.due("go(99)", x.go(99), 100);
        Check.due("go(98)", x.go(98), 198);
    }

    private static void noSuchGoing() {
        Check.says("NONE, and none does: no such number");
        EngagedTone x = Check.of(AB + "ring a b 0 9;");
        x.lend(0, 1);
        Check.due("go(100)", x.go(100), -1);
        Check.due("go(-1)", x.go(-1), -1);
        for (int n : WILD) {
            Check.due("go(" + n + ")", x.go(n), -1);
        }
        Check.due("none went by", x.count(4), 0);
        Check.due("none was tried", x.count(11), 0);
        Check.due("what can be undone stays", x.count(14), 1);
    }

    private static void notBehind9900() {
        Check.says("NONE, and none does: no such number, behind 9900.");
        EngagedTone x = Check.of(AB);
        for (int i = 0; i < 99; i++) {
            x.go(99);
        }
        Check.due("9801", x.count(4), 9801);
        Check.due("go(99)", x.go(99), 9900);
        Check.due("go(1)", x.go(1), -1);
        Check.due("go(99)", x.go(99), -1);
        Check.due("go(0)", x.go(0), 9900);
        EngagedTone y = Check.of(AB + "tone a 99 1;ring b a 99 1;");
        y.put(0, 9899);
        y.buy(0, 9900, 3);
        for (int i = 0; i < 99; i++) {
            y.go(99);
        }
        Check.due("go(98)", y.go(98), 9899);
        Check.due("go(2)", y.go(2), -1);
        Check.due("none does", y.count(4), 9899);
        Check.due("nor is one tried", y.ring(0, 4), 0);
        Check.due("go(1)", y.go(1), 9900);
        Check.due("now it is", y.ring(0, 4), 1);
        Check.due("ahead goes on behind it", y.ahead(99, 2, 0), 15);
        Check.due("part, too", y.part(0, 6, 0), 1);
        Check.due("part, too", y.part(0, 6, 1), 2);
    }

    private static void counts() {
        Check.says("0 PEOPLE, 1 TONES now, 2 CALLS, 3 KNOTS, 4 the QUARTER, 5 WAITING, 6 SPEAKING, 7 OVER, 8 GIVEN UP, 9"
            + " PAID so far, 10 how many are ENGAGED, 11 TRIED so far, 12 HEARD, 13 by how many it is KNOWN, 14 what"
            + " can be undone.");
        EngagedTone x = Check.of(AB + "man c 0 0;man d 0 99;tone d 0 9;ring a b 0 1;ring a b 1 5;ring c d 0 1;ring c d 9 1;"
            + "tries 2;law again 1;law fame 1+1;", 2);
        x.hear(0, 0, true);
        x.hear(0, 1, true);
        x.out(0);
        x.known(2);
        x.buy(0, 5, 1);
        x.lend(0, 1);
        x.lend(0, 1);
        x.lend(0, 1);
        int[] want = {4, 2, 4, 4, 2, 1, 1, 1, 1, 45, 3, 4, 3, 2, 4};
        for (int what = 0; what < want.length; what++) {
            Check.due("count(" + what + ")", x.count(what), want[what]);
        }
        x.known(-1);
        Check.due("known by all", x.count(13), 3);
        x.known(0);
        Check.due("known by none", x.count(13), 0);
    }

    private static void noSuchCount() {
        Check.says("14 what can be undone. NONE for another what.");
        EngagedTone x = Check.of(AB);
        Check.due("count(15)", x.count(15), -1);
        Check.due("count(-1)", x.count(-1), -1);
        for (int what : WILD) {
            Check.due("count(" + what + ")", x.count(what), -1);
        }
    }
}
