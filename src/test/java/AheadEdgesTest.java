/** Each sentence on AHEAD to SHIFT and of promises 16 to 21 that names an edge, in the document's order. */
final class AheadEdgesTest {
    private static final int[] WILD = {Integer.MIN_VALUE, -100, -2, 100, 1 << 30, Integer.MAX_VALUE};
    private static final String AB = "man a 50 999;man b 20 999;";
    /** Tones cost nothing, a call is tried once. */
    private static final String ONCE = AB + "law dear 0;tries 1;";

    public static void main(String[] args) {
        aheadOfAll();
        noSuchAhead();
        through();
        throughIn99();
        notThrough();
        whenOf20();
        whenNeverTried();
        whenOver();
        whenFirst();
        whenWhat();
        notWhen();
        fewestLines();
        linesIn99();
        stopFewest();
        stopWhose();
        stopIn99();
        notStopped();
        shiftWhich();
        shiftHowFar();
        shiftIn99();
        shiftFirst();
        noSuchShift();
        Check.end();
    }

    private static void aheadOfAll() {
        Check.says("AHEAD for n QUARTERS: how many CALLS more get THROUGH (are SPEAKING for the first time), are GIVEN UP;"
            + " PAID more of all; FAME of a PERSON then.");
        EngagedTone x = Check.of(AB + "man c 0 99;tone a 0 3;tone b 2 1;ring c b 0 1;ring c a 1 1;ring c b 98 1;ring c b 99 1;"
            + "tries 2;law fame 9;");
        for (int what = 0; what < 3; what++) {
            Check.due("none in 0", x.ahead(0, what, 0), 0);
        }
        Check.due("fame now", x.ahead(0, 3, 0), 0);
        Check.due("the first at once", x.ahead(1, 0, 0), 1);
        Check.due("of 98", x.ahead(98, 0, 0), 1);
        Check.due("of 99", x.ahead(99, 0, 0), 2);
        Check.due("given up in 2", x.ahead(2, 1, 0), 0);
        Check.due("given up in 3", x.ahead(3, 1, 0), 1);
        Check.due("paid in 2", x.ahead(2, 2, 0), 15);
        Check.due("paid in 3", x.ahead(3, 2, 0), 20);
        Check.due("fame in 3", x.ahead(3, 3, 0), 27);
        x.go(3);
        Check.due("no more given up", x.ahead(90, 1, 0), 0);
        Check.due("no more paid", x.ahead(90, 2, 0), 0);
        Check.due("fame of all", x.ahead(0, 3, 0), 27);
        Check.due("two more through", x.ahead(99, 0, 0), 2);
        Check.due("nothing went by", x.count(4), 3);
    }

    private static void noSuchAhead() {
        Check.says("AHEAD (n 0 .. 99), what 0 THROUGH, 1 GIVEN UP, 2 PAID, 3 FAME of a PERSON (else that isn't looked at)."
            + " NONE: no such ones.");
        EngagedTone x = Check.of(AB);
        for (int what = 0; what < 4; what++) {
            Check.due("n is 99", x.ahead(99, what, 1), 0);
            Check.due("n is 100", x.ahead(100, what, 1), -1);
            Check.due("n is -1", x.ahead(-1, what, 1), -1);
        }
        Check.due("what is 4", x.ahead(1, 4, 0), -1);
        Check.due("what is -1", x.ahead(1, -1, 0), -1);
        Check.due("person 2", x.ahead(1, 3, 2), -1);
        Check.due("person -1", x.ahead(1, 3, -1), -1);
        for (int wild : WILD) {
            Check.due("n " + wild, x.ahead(wild, 0, 0), -1);
            Check.due("what " + wild, x.ahead(1, wild, 0), -1);
            Check.due("person " + wild, x.ahead(1, 3, wild), -1);
            for (int what = 0; what < 3; what++) {
                Check.due("person " + wild + " isn't looked at", x.ahead(1, what, wild), 0);
            }
        }
        Check.due("no people", new EngagedTone().ahead(1, 3, 0), -1);
        Check.due("no people", new EngagedTone().ahead(99, 2, 0), 0);
    }

    private static void through() {
        Check.says("in how many QUARTERS, 99 at most (1: this one), it gets THROUGH (0: it did).");
        EngagedTone x = Check.of(AB + "ring a b 5 2;");
        Check.due("in 6", x.through(0), 6);
        x.go(5);
        Check.due("this one", x.through(0), 1);
        x.go(1);
        Check.due("it did, and speaks", x.through(0), 0);
        x.go(2);
        Check.due("it did, and is over", x.through(0), 0);
        EngagedTone y = Check.of(AB + "ring a b 0 2;", 1);
        y.hang(0);
        Check.due("it did, and was hung up", y.through(0), 0);
    }

    private static void throughIn99() {
        Check.says("THROUGH of a CALL: in how many QUARTERS, 99 at most");
        Check.due("98", Check.of(AB + "ring a b 97 1;").through(0), 98);
        Check.due("99", Check.of(AB + "ring a b 98 1;").through(0), 99);
        Check.due("100", Check.of(AB + "ring a b 99 1;").through(0), -2);
        EngagedTone x = Check.of(AB + "ring a b 0 1;");
        x.put(0, 9999);
        Check.due("far away", x.through(0), -2);
    }

    private static void notThrough() {
        Check.says("THROUGH; -2: not by then, GIVEN UP; NONE: no such CALL.");
        EngagedTone x = Check.of(ONCE + "tone b 3 1;ring a b 3 1;");
        Check.due("it will be given up", x.through(0), -2);
        x.go(4);
        Check.due("given up", x.through(0), -2);
        Check.due("no such call", x.through(1), -1);
        Check.due("no such call", x.through(-1), -1);
        for (int wild : WILD) {
            Check.due("no such call", x.through(wild), -1);
        }
        Check.due("no call", new EngagedTone().through(0), -1);
    }

    private static void whenOf20() {
        Check.says("WHEN for a CALL that is WAITING: the QUARTER of the next 20 (0: this one) to which it is put");
        EngagedTone x = Check.of(ONCE + "ring a b 50 1;");
        Check.due("this one", x.when(0, 0), 0);
        Check.due("over in 2", x.when(0, 1), 2);
        x.go(7);
        Check.due("this one, from now on", x.when(0, 0), 0);
        Check.due("over in 2", x.when(0, 1), 2);
        EngagedTone y = Check.of(ONCE + "tone b 0 16;tone b 16 3;ring a b 0 1;");
        Check.due("the 20th", y.when(0, 0), 19);
        Check.due("over in 21", y.when(0, 1), 21);
        EngagedTone z = Check.of(ONCE + "tone b 0 16;tone b 16 4;ring a b 20 1;");
        Check.due("not the 21st", z.when(0, 0), -2);
        Check.due("nor its end", z.when(0, 1), -2);
        z.put(0, 30);
        z.go(1);
        Check.due("the 20th by now", z.when(0, 0), 19);
    }

    private static void whenNeverTried() {
        Check.says("to which it is put (never TRIED so far)");
        EngagedTone x = Check.of(AB + "law dear 0;tries 2;tone b 0 4;ring a b 0 1;", 1);
        Check.due("tried once", x.ring(0, 5), 1);
        Check.due("put to 3, tried at 3 and 4", x.when(0, 0), 2);
        Check.due("over in 5", x.when(0, 1), 5);
        Check.due("tried once yet", x.ring(0, 5), 1);
        Check.due("due as before", x.ring(0, 2), 1);
        EngagedTone y = Check.of(AB + "law dear 0;law again turn*3;tries 3;tone b 0 5;ring a b 0 1;", 1);
        Check.due("put to 2, tried there for the first time, due again at 5", y.when(0, 0), 1);
        Check.due("over in 6", y.when(0, 1), 6);
    }

    private static void whenOver() {
        Check.says("so that it is OVER soonest, 99 QUARTERS at most");
        String busy = ONCE.replace("tries 1;", "tries 9;") + "law again 9;tone b 0 16;tone b 16 16;tone b 32 16;"
            + "tone b 48 16;tone b 64 16;tone b 80 11;";
        EngagedTone x = Check.of(busy + "ring a b 0 7;");
        Check.due("put to 19, through at 91", x.when(0, 0), 19);
        Check.due("over in 99", x.when(0, 1), 99);
        EngagedTone y = Check.of(busy + "ring a b 0 8;");
        Check.due("over in 100 is too late", y.when(0, 0), -2);
        Check.due("over in 100 is too late", y.when(0, 1), -2);
        EngagedTone z = Check.of(ONCE + "ring a b 0 9;");
        Check.due("speaking from now on", z.when(0, 0), 0);
        Check.due("over in 10", z.when(0, 1), 10);
    }

    private static void whenFirst() {
        Check.says("99 QUARTERS at most, of several the first.");
        EngagedTone x = Check.of(AB + "law dear 0;law again 4;tries 2;tone b 0 4;ring a b 0 1;");
        Check.due("0 or 4: both get through at 4", x.when(0, 0), 0);
        Check.due("over in 6", x.when(0, 1), 6);
        EngagedTone y = Check.of(AB + "law dear 0;law again 2;tries 2;tone b 0 4;ring a b 0 1;");
        Check.due("2 or 4", y.when(0, 0), 2);
        Check.due("over in 6", y.when(0, 1), 6);
    }

    private static void whenWhat() {
        Check.says("WHEN, what 0: the QUARTER (0 .. 19 from this one on), 1: in how many QUARTERS it is OVER.");
        for (int later = 0; later < 20; later++) {
            String tones = later == 0 ? "" : later <= 16 ? "tone b 7 " + later + ";" : "tone b 7 16;tone b 23 " + (later - 16) + ";";
            EngagedTone x = Check.of(ONCE + "ring a b 99 4;" + tones, 7);
            Check.due("the quarter from this one on", x.when(0, 0), later);
            Check.due("speaking for 4, over in the next", x.when(0, 1), later + 5);
        }
    }

    private static void notWhen() {
        Check.says("-2: by none of these, it isn't WAITING; NONE: no such ones.");
        EngagedTone x = Check.of(ONCE + "man c 0 0;ring a b 0 2;ring c b 0 1;ring c b 90 1;", 1);
        for (int what = 0; what < 2; what++) {
            Check.due("speaking", x.when(0, what), -2);
            Check.due("given up", x.when(1, what), -2);
            Check.due("no such call", x.when(3, what), -1);
            Check.due("no such call", x.when(-1, what), -1);
            for (int wild : WILD) {
                Check.due("no such call", x.when(wild, what), -1);
                Check.due("no such what", x.when(2, wild), -1);
            }
        }
        Check.due("what is 2", x.when(2, 2), -1);
        Check.due("what is -1", x.when(2, -1), -1);
        x.go(3);
        Check.due("over", x.when(0, 0), -2);
        Check.due("over", x.when(0, 1), -2);
        Check.due("no call", new EngagedTone().when(0, 0), -1);
        EngagedTone y = Check.of(ONCE + "tone b 0 16;tone b 16 16;ring a b 0 1;");
        Check.due("by none of these", y.when(0, 0), -2);
    }

    private static void fewestLines() {
        Check.says("LINES: the fewest lines 1 .. 6 in place of those there are by which none more is GIVEN UP");
        String six = AB + "man c 0 0;man d 0 0;man e 0 0;man f 0 0;tries 1;";
        Check.due("without calls", Check.of(six + "lines 6;").lines(), 1);
        Check.due("one", Check.of(six + "ring a b 0 1;ring c d 1 1;lines 6;").lines(), 1);
        Check.due("two", Check.of(six + "ring a b 0 2;ring c d 1 1;lines 1;").lines(), 2);
        Check.due("three", Check.of(six + "ring a b 0 2;ring c d 1 1;ring e f 1 1;lines 1;").lines(), 3);
        Check.due("by none", Check.of(six + "ring a b 0 2;ring c b 1 1;").lines(), -2);
        Check.due("a new object", new EngagedTone().lines(), 1);
        EngagedTone x = Check.of(six + "ring a b 0 2;ring c b 1 1;ring e f 1 1;ring c d 9 1;lines 6;", 2);
        Check.due("one is given up", x.count(8), 1);
        Check.due("but none more", x.lines(), 1);
        EngagedTone y = Check.of(six + "ring a b 0 9;ring c d 0 9;ring e f 5 1;lines 6;", 1);
        Check.due("two speak already, a third is to", y.lines(), 3);
        Check.due("there are six yet", y.ahead(9, 1, 0), 0);
        Check.says("LINES; -2: by none.");
        Check.due("by none", Check.of(ONCE + "tone b 0 1;ring a b 0 1;").lines(), -2);
    }

    private static void linesIn99() {
        Check.says("none more is GIVEN UP in 99 QUARTERS.");
        Check.due("given up in the 99th", Check.of(ONCE + "tone b 98 9;ring a b 98 1;").lines(), -2);
        Check.due("given up in the 100th", Check.of(ONCE + "tone b 98 9;ring a b 99 1;").lines(), 1);
        Check.due("from now on", Check.of(ONCE + "tone b 98 9;ring a b 99 1;", 1).lines(), -2);
    }

    private static void stopFewest() {
        Check.says("STOP for a CALL that is WAITING: the fewest TONES (bits, of several the least)");
        Check.due("none", Check.of(ONCE + "tone b 0 1;ring a b 1 1;").stop(0), 0);
        Check.due("the first", Check.of(ONCE + "tone b 0 2;tone b 3 1;ring a b 1 1;").stop(0), 1);
        Check.due("the eighth", Check.of(ONCE + "tone b 9 1;".repeat(7) + "tone b 0 2;ring a b 1 1;").stop(0), 128);
        Check.due("all eight", Check.of(ONCE + "tone b 0 1;".repeat(8) + "ring a b 0 1;").stop(0), 255);
        Check.due("either of two", Check.of(AB + "law dear 0;tries 2;tone b 9 1;tone b 0 1;tone b 1 1;ring a b 0 1;").stop(0), 2);
        EngagedTone x = Check.of("man a 0 0;man b 0 0;man c 0 999;tries 1;law dear (busy=0)*999;"
            + "tone b 1 2;tone b 1 2;tone c 0 9;ring a b 1 1;");
        Check.due("one tone, though its bits are more than those of two", x.stop(0), 4);
    }

    private static void stopWhose() {
        Check.says("of those that run or are to begin, none of the one who calls, which, DEAD now");
        EngagedTone x = Check.of(ONCE + "tone b 0 9;ring a b 2 1;", 1);
        Check.due("one that runs", x.stop(0), 1);
        EngagedTone y = Check.of("man a 0 999;man b 0 0;man c 0 999;tries 1;law dear (busy=0)*999;"
            + "tone a 0 9;tone b 1 2;tone b 1 2;ring a b 1 1;");
        Check.due("not the caller's own", y.stop(0), 6);
        EngagedTone z = Check.of("man a 0 9;man b 0 9;tries 1;law dear 9;tone b 0 2;tone b 1 2;ring a b 1 1;");
        Check.due("a stopped one isn't paid, so that the next one is", z.stop(0), 3);
        EngagedTone w = Check.of("man a 0 9;man b 0 9;tries 1;law dear 9;tone b 0 3;tone b 0 2;tone b 2 1;ring a b 2 1;", 1);
        Check.due("a dead one needs no stop, one without money, too", w.stop(0), 1);
        EngagedTone v = Check.of(ONCE + "tone b 0 1;tone b 1 9;ring a b 3 1;", 2);
        Check.due("an ended one needs none", v.stop(0), 2);
        Check.due("nothing was stopped", v.tone(1, 3), 1);
    }

    private static void stopIn99() {
        Check.says("let it get THROUGH in 99 QUARTERS.");
        Check.due("in 99", Check.of(ONCE + "ring a b 98 1;").stop(0), 0);
        Check.due("in 100", Check.of(ONCE + "ring a b 99 1;").stop(0), -2);
        Check.due("in 99", Check.of(ONCE + "tone b 98 1;ring a b 98 1;").stop(0), 1);
        Check.due("in 100", Check.of(ONCE + "tone b 99 1;ring a b 99 1;").stop(0), -2);
    }

    private static void notStopped() {
        Check.says("STOP (bits; 0: it does); -2: by none, it isn't WAITING; NONE: no such CALL.");
        EngagedTone x = Check.of(ONCE + "man c 0 0;tone b 3 1;ring a b 0 2;ring c b 0 1;ring c a 1 1;ring c b 3 1;", 1);
        Check.due("speaking", x.stop(0), -2);
        Check.due("given up", x.stop(1), -2);
        Check.due("by none", x.stop(2), -2);
        Check.due("by one", x.stop(3), 1);
        Check.due("no such call", x.stop(4), -1);
        Check.due("no such call", x.stop(-1), -1);
        for (int wild : WILD) {
            Check.due("no such call", x.stop(wild), -1);
        }
        x.go(3);
        Check.due("over", x.stop(0), -2);
        Check.due("no call", new EngagedTone().stop(0), -1);
        Check.due("it does", Check.of(AB + "ring a b 0 1;").stop(0), 0);
    }

    private static void shiftWhich() {
        Check.says("SHIFT: the first three TONES that haven't begun (nor are DEAD)");
        EngagedTone x = Check.of("man a 0 5;man b 0 4;man c 0 99;tries 1;tone b 0 1;tone a 0 1;tone c 3 1;tone c 9 1;"
            + "tone c 3 1;tone c 4 2;ring a c 3 1;", 1);
        Check.due("the first is dead", x.tone(0, 3), 3);
        Check.due("the second runs", x.tone(1, 3), 1);
        Check.due("the third one goes", x.shift(0), 1);
        Check.due("the fourth stays", x.shift(1), 0);
        Check.due("the fifth goes", x.shift(2), 1);
        Check.due("none is given up", x.shift(3), 0);
        EngagedTone y = Check.of(ONCE + "man c 0 99;tone a 50 1;tone a 50 1;tone a 50 1;tone b 3 1;ring c b 3 1;");
        Check.due("the fourth can't be shifted", y.shift(3), 1);
        Check.due("so all stay", y.shift(0) + y.shift(1) + y.shift(2), 0);
    }

    private static void shiftHowFar() {
        Check.says("each begun 0 .. 3 QUARTERS later than told");
        for (int later = 0; later <= 4; later++) {
            StringBuilder rings = new StringBuilder();
            for (int i = 0; i < later; i++) {
                rings.append("ring a b ").append(5 + i).append(" 1;");
            }
            EngagedTone x = Check.of(ONCE + "tone b 5 1;" + rings);
            Check.due("to be shifted by " + later, x.shift(0), later == 4 ? 0 : later);
            Check.due("given up", x.shift(3), later == 4 ? 1 : 0);
            Check.due("nothing was shifted", x.tone(0, 1), 5);
        }
        EngagedTone y = Check.of(ONCE + "tone b 5 1;tone b 5 1;tone b 5 1;ring a b 5 1;ring a b 6 1;ring a b 7 1;");
        Check.due("all three by three", y.shift(0) * 100 + y.shift(1) * 10 + y.shift(2), 333);
    }

    private static void shiftIn99() {
        Check.says("so that fewest CALLS are GIVEN UP more in 99 QUARTERS");
        EngagedTone x = Check.of(ONCE + "tone b 98 1;ring a b 98 1;");
        Check.due("the 99th", x.shift(0), 1);
        Check.due("none is given up", x.shift(3), 0);
        EngagedTone y = Check.of(ONCE + "tone b 99 1;ring a b 99 1;");
        Check.due("the 100th", y.shift(0), 0);
        Check.due("none is given up", y.shift(3), 0);
        EngagedTone z = Check.of(ONCE + "tone b 0 2;tone b 9 1;ring a b 1 1;ring a b 9 1;ring a b 10 1;ring a b 12 1;"
            + "ring a b 11 1;", 2);
        Check.due("one is given up", z.count(8), 1);
        Check.due("fewest, not none", z.shift(3), 1);
        Check.due("of several the first", z.shift(0), 0);
        EngagedTone w = Check.of(ONCE + "tone b 0 9;tone a 50 1;" + "ring a b 1 1;".repeat(10), 1);
        Check.due("all ten, however", w.shift(3), 10);
        Check.due("of several the first", w.shift(0), 0);
    }

    private static void shiftFirst() {
        Check.says("of several the first by TONES.");
        EngagedTone x = Check.of("man a 0 0;man b 0 5;tries 1;tone b 0 1;tone b 0 1;ring a b 0 1;");
        Check.due("both must go", x.shift(0) * 10 + x.shift(1), 11);
        // The tone of b is free while c has one, and can't be paid else: either one's shift lets the call through.
        EngagedTone y = Check.of("man a 0 0;man b 0 0;man c 0 9;tries 1;law dear (busy=0)*9;tone c 5 1;tone b 5 1;"
            + "ring a b 5 1;");
        Check.due("the first stays", y.shift(0), 0);
        Check.due("the second goes", y.shift(1), 1);
        Check.due("none is given up", y.shift(3), 0);
        EngagedTone z = Check.of("man a 0 0;man b 0 5;man c 0 0;tries 1;tone b 0 1;tone b 1 1;ring a b 0 1;ring a b 1 1;");
        // There is money for one tone: that one must keep off 0 and 1.
        Check.due("the first one's shift", z.shift(0), 2);
        Check.due("the second one's shift", z.shift(1), 1);
        Check.due("none is given up", z.shift(3), 0);
    }

    private static void noSuchShift() {
        Check.says("SHIFT, what 0 .. 2: by how many QUARTERS the first TONE, and so on (-2: not so many), 3: how many are"
            + " GIVEN UP. NONE for another what.");
        String[] tones = {"", "tone a 9 1;", "tone a 9 1;tone b 9 1;", "tone a 9 1;tone b 9 1;tone a 8 1;"};
        for (int many = 0; many <= 3; many++) {
            EngagedTone x = Check.of(ONCE + tones[many]);
            for (int what = 0; what < 3; what++) {
                Check.due(many + " tones, what " + what, x.shift(what), what < many ? 0 : -2);
            }
            Check.due("given up", x.shift(3), 0);
            Check.due("what is 4", x.shift(4), -1);
            Check.due("what is -1", x.shift(-1), -1);
            for (int wild : WILD) {
                Check.due("what is " + wild, x.shift(wild), -1);
            }
        }
        EngagedTone y = Check.of(ONCE + "tone b 0 2;ring a b 1 1;", 1);
        Check.due("it runs", y.shift(0), -2);
        Check.due("given up, however", y.shift(3), 1);
    }
}
