/** Promises 16 to 21: ahead, through, when, lines, stop, shift. */
final class AheadTest {
    private static final String TEXT = "man a 35 60;man b 20 40;man c 5 0;tone a 0 2;tone b 1 3;"
        + "ring b a 0 3;ring c b 1 2;ring c a 7 1;tries 2;";

    public static void main(String[] args) {
        lookingAhead();
        gettingThrough();
        whenToRing();
        fewestLines();
        stopping();
        stoppingSeveral();
        shifting();
        shiftingSeveral();
        nothingIsChanged();
        Check.end();
    }

    private static void lookingAhead() {
        EngagedTone x = Check.of(TEXT);
        Check.due("ahead(0, 0, 9)", x.ahead(0, 0, 9), 0);
        Check.due("ahead(0, 3, 0)", x.ahead(0, 3, 0), 0);
        Check.due("ahead(1, 2, 9)", x.ahead(1, 2, 9), 10);
        Check.due("ahead(2, 2, 9)", x.ahead(2, 2, 9), 25);
        Check.due("ahead(2, 3, 0)", x.ahead(2, 3, 0), 8);
        Check.due("ahead(3, 3, 1)", x.ahead(3, 3, 1), 6);
        Check.due("ahead(2, 1, 0)", x.ahead(2, 1, 0), 1);
        Check.due("ahead(3, 1, 0)", x.ahead(3, 1, 0), 2);
        Check.due("ahead(7, 0, 0)", x.ahead(7, 0, 0), 0);
        Check.due("ahead(8, 0, 0)", x.ahead(8, 0, 0), 1);
        Check.due("ahead(99, 0, 0)", x.ahead(99, 0, 0), 1);
        Check.due("ahead(100, 0, 0)", x.ahead(100, 0, 0), -1);
        Check.due("ahead(-1, 0, 0)", x.ahead(-1, 0, 0), -1);
        Check.due("ahead(1, 4, 0)", x.ahead(1, 4, 0), -1);
        Check.due("ahead(1, -1, 0)", x.ahead(1, -1, 0), -1);
        Check.due("ahead(1, 3, 3)", x.ahead(1, 3, 3), -1);
        Check.due("ahead(1, 3, -1)", x.ahead(1, 3, -1), -1);
        x.go(1);
        Check.due("more paid than by now", x.ahead(9, 2, 0), 15);
        x.go(2);
        Check.due("more given up", x.ahead(9, 1, 0), 0);
        Check.due("more paid", x.ahead(9, 2, 0), 0);
        Check.due("fame then", x.ahead(9, 3, 1), 9);
        x.go(5);
        Check.due("no more through", x.ahead(9, 0, 0), 0);
    }

    private static void gettingThrough() {
        EngagedTone x = Check.of(TEXT);
        Check.due("through(0)", x.through(0), -2);
        Check.due("through(2)", x.through(2), 8);
        Check.due("through(3)", x.through(3), -1);
        Check.due("through(-1)", x.through(-1), -1);
        x.go(7);
        Check.due("given up", x.through(0), -2);
        Check.due("this one", x.through(2), 1);
        x.go(1);
        Check.due("it did", x.through(2), 0);
        x.go(9);
        Check.due("over", x.through(2), 0);
        EngagedTone y = Check.of("man a 1 1;man b 1 1;ring a b 99 1;");
        Check.due("in 100", y.through(0), -2);
        y.go(1);
        Check.due("in 99", y.through(0), 99);
    }

    private static void whenToRing() {
        EngagedTone x = Check.of(TEXT);
        Check.due("the tone of a ends at 2", x.when(0, 0), 1);
        Check.due("through at 2, over at 5", x.when(0, 1), 6);
        Check.due("b is free at 0", x.when(1, 0), 0);
        Check.due("over at 2", x.when(1, 1), 3);
        Check.due("when(3, 0)", x.when(3, 0), -1);
        Check.due("when(-1, 0)", x.when(-1, 0), -1);
        Check.due("when(0, 2)", x.when(0, 2), -1);
        Check.due("when(0, -1)", x.when(0, -1), -1);
        x.go(3);
        Check.due("given up", x.when(0, 0), -2);
        Check.due("given up, no such what", x.when(0, 2), -1);
        EngagedTone y = Check.of("man a 1 1;man b 9 999;tone b 0 16;tone b 16 16;ring a b 0 1;tries 1;law dear 0;");
        Check.due("never in 20", y.when(0, 0), -2);
        Check.due("never in 20", y.when(0, 1), -2);
        EngagedTone z = Check.of("man a 1 1;man b 9 999;tone b 0 5;ring a b 0 1;tries 3;law dear 0;law again 1;");
        z.go(2);
        Check.due("tried twice", z.ring(0, 5), 2);
        Check.due("as if it were never tried", z.when(0, 0), 1);
        Check.due("at 5, over at 6", z.when(0, 1), 5);
        EngagedTone w = Check.of("man a 1 1;man b 9 999;tone b 0 16;tone b 16 3;ring a b 0 9;tries 1;law dear 0;");
        Check.due("the last of 20", w.when(0, 0), 19);
        Check.due("over at 28", w.when(0, 1), 29);
        String long91 = "man a 1 1;man b 9 9;tone b 0 16;tone b 16 16;tone b 32 16;tone b 48 16;tone b 64 16;"
            + "tone b 80 11;tries 9;law again 9;law dear 0;";
        EngagedTone v = Check.of(long91 + "ring a b 0 7;");
        Check.due("tried for the ninth time at 91", v.when(0, 0), 19);
        Check.due("over at 98", v.when(0, 1), 99);
        Check.due("over at 99 is too late", Check.of(long91 + "ring a b 0 8;").when(0, 0), -2);
    }

    private static void fewestLines() {
        String people = "man a 1 1;man b 1 1;man c 1 1;man d 1 1;man e 1 1;man f 1 1;";
        String rings = "ring a b 0 5;ring c d 0 5;ring e f 0 5;";
        Check.due("three at once", Check.of(people + rings + "tries 2;").lines(), 3);
        Check.due("two tries suffice later", Check.of(people + rings + "tries 6;").lines(), 2);
        Check.due("one line", Check.of(people + rings + "tries 6;law again 5;").lines(), 1);
        Check.due("by none", Check.of(people + "tone b 0 9;" + rings + "tries 2;law dear 0;").lines(), -2);
        Check.due("without calls", Check.of(people).lines(), 1);
        EngagedTone x = Check.of(people + "tone b 0 9;" + rings + "tries 2;law dear 0;");
        x.go(2);
        Check.due("given up already is not more", x.lines(), 1);
    }

    private static void stopping() {
        EngagedTone x = Check.of(TEXT);
        Check.due("stop(0)", x.stop(0), 1);
        Check.due("stop(1)", x.stop(1), 2);
        Check.due("stop(2)", x.stop(2), 0);
        Check.due("stop(3)", x.stop(3), -1);
        Check.due("stop(-1)", x.stop(-1), -1);
        x.go(1);
        Check.due("one that runs", x.stop(0), 1);
        x.go(2);
        Check.due("given up", x.stop(0), -2);
        EngagedTone y = Check.of("man a 1 1;man b 1 1;man c 1 1;ring a b 0 9;ring c b 0 1;tries 2;");
        Check.due("by none", y.stop(1), -2);
    }

    private static void stoppingSeveral() {
        String people = "man a 1 9;man b 9 999;man c 9 999;law dear 0;tries 1;";
        Check.due("both of b", Check.of(people + "tone b 0 9;tone c 0 9;tone b 0 3;ring a b 1 1;").stop(0), 5);
        // The caller's own tone would let another call through ahead of it if stopped; it may not be.
        String own = "tone c 0 9;tone a 0 9;ring c a 1 9;ring a b 1 1;";
        EngagedTone x = Check.of(people + own);
        Check.due("it does", x.stop(1), 0);
        // c hears its tone, so that b speaks with a at 1, unless b's call is kept engaged: stop either tone.
        String either = "tone b 0 1;tone b 1 1;ring a b 0 1;law again 1;";
        Check.due("the least of several", Check.of("man a 1 9;man b 9 9;tries 2;law dear 0;" + either).stop(0), 1);
        // Stopped tones cost nothing: with the first one stopped, the second one is paid and keeps it engaged.
        String purse = "man a 1 9;man b 9 9;tries 1;law dear 9;tone b 0 2;tone b 1 2;ring a b 1 1;";
        Check.due("paid instead", Check.of(purse).stop(0), 3);
        // Tones of b can be paid only while another one is engaged.
        String busy = "man a 1 999;man b 9 9;man c 9 999;tries 1;law dear (busy=0)*999;";
        String few = busy + "tone b 1 2;tone b 1 2;tone c 0 9;ring a b 1 1;";
        Check.due("fewer, though their bits are more", Check.of(few).stop(0), 4);
        String mine = busy + "tone a 0 9;tone b 1 2;tone b 1 2;ring a b 1 1;";
        Check.due("not the caller's own", Check.of(mine).stop(0), 6);
        EngagedTone y = Check.of(purse);
        y.go(1);
        Check.due("the money is gone by then", y.stop(0), 1);
    }

    private static void shifting() {
        EngagedTone x = Check.of("man a 35 60;man b 1 1;tone a 0 2;ring b a 1 1;ring b a 2 1;tries 1;");
        Check.due("shift(0)", x.shift(0), 3);
        Check.due("shift(1)", x.shift(1), -2);
        Check.due("shift(2)", x.shift(2), -2);
        Check.due("shift(3)", x.shift(3), 0);
        Check.due("shift(4)", x.shift(4), -1);
        Check.due("shift(-1)", x.shift(-1), -1);
        x.go(1);
        Check.due("it runs", x.shift(0), -2);
        Check.due("given up", x.shift(3), 1);
        EngagedTone y = Check.of("man a 35 60;man b 1 1;tone a 0 2;ring b a 5 1;tries 1;");
        Check.due("of several the first", y.shift(0), 0);
        String rings = "ring b a 1 1;ring b a 1 1;ring b a 1 1;ring b a 1 1;ring b a 1 1;";
        EngagedTone z = Check.of("man a 35 60;man b 1 1;tone a 0 9;tries 1;tone b 50 1;" + rings + rings);
        z.go(1);
        Check.due("all are given up, however it is shifted", z.shift(0), 0);
        Check.due("all ten", z.shift(3), 10);
    }

    private static void shiftingSeveral() {
        String text = "man a 1 999;man b 1 999;man c 1 999;man d 1 0;man e 1 0;man f 1 0;tries 1;law dear 0;"
            + "tone a 2 1;tone b 2 1;tone c 2 1;tone a 0 16;ring d b 2 1;ring e c 2 1;ring e c 3 1;";
        EngagedTone x = Check.of(text);
        Check.due("shift(0)", x.shift(0), 0);
        Check.due("shift(1)", x.shift(1), 1);
        Check.due("shift(2)", x.shift(2), 2);
        Check.due("shift(3)", x.shift(3), 0);
        // Either tone alone could make room: the first stays as long as it can.
        EngagedTone y = Check.of("man a 1 5;man b 1 1;tries 1;tone a 0 1;tone a 0 1;ring b a 0 1;");
        Check.due("the first tone stays", y.shift(0), 1);
        Check.due("the second one goes too", y.shift(1), 1);
        Check.due("none given up", y.shift(3), 0);
    }

    private static void nothingIsChanged() {
        EngagedTone x = Check.of(TEXT);
        EngagedTone y = Check.of(TEXT);
        for (int i = 0; i < 9; i++) {
            y.ahead(50, 0, 0);
            y.through(0);
            y.when(2, 0);
            y.lines();
            y.stop(2);
            y.shift(0);
            y.part(0, 9, 0);
            y.chance(5, 9, 1);
            y.tried(5, 0, 9);
            y.spans(0);
            for (int what = 0; what <= 14; what++) {
                Check.due("count(" + what + ") at " + i, y.count(what), x.count(what));
            }
            x.go(1);
            y.go(1);
        }
    }
}
