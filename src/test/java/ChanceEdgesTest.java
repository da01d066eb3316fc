import java.math.BigInteger;

/** Each sentence on QUARTERS by chance and TRIED and of promises 33 and 34 that names an edge. */
final class ChanceEdgesTest {
    private static final int[] WILD = {Integer.MIN_VALUE, -100, -2, 100, 1 << 30, Integer.MAX_VALUE};
    private static final String AB = "man a 5 99;man b 5 99;";
    private static final String SIX = AB + "man c 5 99;man d 5 99;man e 5 99;man f 5 99;";

    public static void main(String[] args) {
        lengths();
        numbers();
        oneBehindAnother();
        atLeastSoMany();
        noSuchChance();
        asItGoes();
        noTones();
        callsNobody();
        sixLines();
        nineTries();
        allIsFree();
        nothingLasts();
        noSuchTried();
        Check.end();
    }

    /** The numbers that are drawn, written as the document does. */
    private static final class Drawn {
        private BigInteger last;

        Drawn(int seed) {
            last = BigInteger.valueOf(seed);
        }

        int next() {
            last = last.multiply(BigInteger.valueOf(1103515245)).add(BigInteger.valueOf(12345));
            last = last.mod(BigInteger.ONE.shiftLeft(31));
            return last.divide(BigInteger.valueOf(65536)).intValueExact();
        }
    }

    private static void lengths() {
        Check.says("QUARTERS by chance: a CALL that gets THROUGH is LONG by a number modulo 9, and 1.");
        // The second call is due so many quarters behind the first one: it gets through if that was no longer.
        for (int gap = 1; gap <= 9; gap++) {
            EngagedTone x = Check.of(AB + "ring a b 0 5;ring b a " + gap + " 5;tries 1;");
            for (int seed = 0; seed < 40; seed++) {
                Drawn drawn = new Drawn(seed);
                int want = 0;
                for (int i = 0; i < 10; i++) {
                    if (drawn.next() % 9 + 1 <= gap) {
                        drawn.next();
                        want++;
                    }
                }
                Check.due("a gap of " + gap + ", seed " + seed, x.chance(seed, 20, 2), want);
            }
        }
        EngagedTone y = Check.of(AB + "ring a b 0 3;ring b a 2 1;ring b a 3 1;tries 1;", 1);
        Check.due("one that speaks already is as long as told", y.chance(1, 9, 1), 10);
        Check.due("so that one of two is turned away", y.chance(1, 9, 2), 0);
    }

    private static void numbers() {
        Check.says("Numbers are the last one (at first the seed) times 1103515245 and 12345, without what is above 31 bits,"
            + " by 65536.");
        EngagedTone x = Check.of(AB + "ring a b 0 5;ring b a 4 5;tries 1;seed 7;");
        for (int seed : new int[] {0, 1, 65535, 65536, 99999, 1 << 30, Integer.MAX_VALUE - 1, Integer.MAX_VALUE}) {
            Drawn drawn = new Drawn(seed);
            int want = 0;
            for (int i = 0; i < 10; i++) {
                if (drawn.next() % 9 + 1 <= 4) {
                    drawn.next();
                    want++;
                }
            }
            Check.due("seed " + seed, x.chance(seed, 20, 2), want);
        }
    }

    private static void oneBehindAnother() {
        Check.says("(numbers from a seed 0 .. 2147483647 on, one behind another; n 1 .. 99 QUARTERS from now)");
        // Three calls at once draw three numbers a time, by their numbers; a fourth is due behind 4.
        EngagedTone x = Check.of(SIX + "ring a b 0 1;ring c d 0 1;ring e f 0 1;ring d c 4 1;tries 1;");
        for (int seed = 0; seed < 40; seed++) {
            Drawn drawn = new Drawn(seed);
            int want = 0;
            for (int i = 0; i < 10; i++) {
                drawn.next();
                int second = drawn.next() % 9 + 1;
                drawn.next();
                if (second <= 4) {
                    drawn.next();
                    want++;
                }
            }
            Check.due("seed " + seed, x.chance(seed, 99, 4), want);
        }
        EngagedTone y = Check.of(AB + "ring a b 98 1;");
        Check.due("in 98", y.chance(1, 98, 1), 0);
        Check.due("in 99", y.chance(1, 99, 1), 10);
        Check.due("the same asked again", y.chance(1, 99, 1), 10);
        y.go(98);
        Check.due("in 1", y.chance(1, 1, 1), 10);
        y.go(1);
        Check.due("long as told", y.ring(0, 3), 1);
    }

    private static void atLeastSoMany() {
        Check.says("In how many of ten times drawn");
        EngagedTone x = Check.of(AB + "ring a b 0 1;".repeat(10) + "tries 1;");
        Check.due("0 at least", x.chance(3, 1, 0), 10);
        Check.due("1 at least", x.chance(3, 1, 1), 10);
        Check.due("2 at least", x.chance(3, 1, 2), 0);
        Check.says("so many 0 .. 10 more at least get THROUGH");
        EngagedTone y = Check.of(AB + "ring a b 0 1;ring a b 9 1;ring a b 18 1;ring a b 27 1;ring a b 36 1;ring a b 45 1;"
            + "ring a b 54 1;ring a b 63 1;ring a b 72 1;ring a b 81 1;");
        Check.due("ten of ten", y.chance(3, 99, 10), 10);
        Check.due("nine by then", y.chance(3, 81, 10), 0);
        Check.due("nine by then", y.chance(3, 81, 9), 10);
        y.go(1);
        Check.due("nine more", y.chance(3, 99, 9), 10);
        Check.due("not ten more", y.chance(3, 99, 10), 0);
    }

    private static void noSuchChance() {
        Check.says("so many 0 .. 10 more at least get THROUGH; NONE: no such ones.");
        EngagedTone x = Check.of(AB + "ring a b 0 1;");
        Check.due("seed 0", x.chance(0, 1, 0), 10);
        Check.due("seed 2147483647", x.chance(Integer.MAX_VALUE, 1, 0), 10);
        Check.due("seed -1", x.chance(-1, 1, 0), -1);
        Check.due("the least seed", x.chance(Integer.MIN_VALUE, 1, 0), -1);
        Check.due("n is 0", x.chance(0, 0, 0), -1);
        Check.due("n is 99", x.chance(0, 99, 0), 10);
        Check.due("n is 100", x.chance(0, 100, 0), -1);
        Check.due("n is -1", x.chance(0, -1, 0), -1);
        Check.due("10 at least", x.chance(0, 1, 10), 0);
        Check.due("11 at least", x.chance(0, 1, 11), -1);
        Check.due("-1 at least", x.chance(0, 1, -1), -1);
        for (int wild : WILD) {
            Check.due("n is " + wild, x.chance(0, wild, 0), -1);
            Check.due(wild + " at least", x.chance(0, 1, wild), -1);
        }
        Check.due("nobody", new EngagedTone().chance(0, 1, 0), 10);
        Check.due("nobody", new EngagedTone().chance(0, 1, 1), 0);
    }

    private static void asItGoes() {
        Check.says("TRIED for n QUARTERS: how many more are GIVEN UP: 0 as it goes");
        EngagedTone x = Check.of(AB + "tone b 0 1;tone b 98 2;ring a b 0 1;ring a b 98 1;ring a b 99 1;tries 1;law dear 0;");
        Check.due("in 0", x.tried(0, 0, 0), 0);
        Check.due("in 1", x.tried(0, 0, 1), 1);
        Check.due("in 98", x.tried(0, 0, 98), 1);
        Check.due("in 99", x.tried(0, 0, 99), 2);
        x.go(1);
        Check.due("more, in 97", x.tried(0, 0, 97), 0);
        Check.due("more, in 98", x.tried(0, 0, 98), 1);
        Check.due("more, in 99", x.tried(0, 0, 99), 2);
    }

    private static void noTones() {
        Check.says("1 no TONES");
        EngagedTone x = Check.of(AB + "tone b 0 9;tone b 20 9;ring a b 3 1;ring a b 22 1;tries 1;law dear 0;", 1);
        Check.due("one runs", x.tone(0, 3), 1);
        Check.due("as it goes", x.tried(0, 0, 99), 2);
        Check.due("no tones", x.tried(1, 0, 99), 0);
        Check.due("they are there yet", x.tried(0, 0, 99), 2);
    }

    private static void callsNobody() {
        Check.says("2 PERSON i calls nobody more");
        EngagedTone x = Check.of(SIX + "ring a b 0 9;ring a c 1 1;ring d b 1 1;ring e a 2 1;tries 1;lines 6;", 1);
        Check.due("as it goes", x.tried(0, 0, 99), 3);
        Check.due("a calls nobody more, but speaks yet", x.tried(2, 0, 99), 2);
        Check.due("b calls nobody anyhow", x.tried(2, 1, 99), 3);
        Check.due("d calls nobody more", x.tried(2, 3, 99), 2);
        Check.due("f calls nobody anyhow", x.tried(2, 5, 99), 3);
        EngagedTone y = Check.of(SIX + "ring a b 0 9;ring c a 1 1;tries 1;");
        Check.due("a is free to be called", y.tried(2, 0, 99), 0);
    }

    private static void sixLines() {
        Check.says("3 lines are 6");
        EngagedTone x = Check.of(SIX + "ring a b 0 9;ring c d 0 9;ring e f 0 9;tries 1;lines 1;");
        Check.due("one line", x.tried(0, 0, 99), 2);
        Check.due("six lines", x.tried(3, 0, 99), 0);
        Check.due("one line yet", x.tried(0, 0, 99), 2);
    }

    private static void nineTries() {
        Check.says("4 tries are 9");
        String text = AB + "tries 1;law dear 0;ring a b 0 1;";
        Check.due("the ninth gets through", Check.of(text + "tone b 0 8;").tried(4, 0, 99), 0);
        Check.due("a tenth isn't tried", Check.of(text + "tone b 0 9;").tried(4, 0, 99), 1);
        Check.due("not yet in 8", Check.of(text + "tone b 0 9;").tried(4, 0, 8), 0);
        Check.due("in 9", Check.of(text + "tone b 0 9;").tried(4, 0, 9), 1);
        Check.due("one try", Check.of(text + "tone b 0 8;").tried(0, 0, 99), 1);
    }

    private static void allIsFree() {
        Check.says("5 all is free (each TONE costs 0, whatever the law; cost is 0).");
        String text = "man a 0 0;man b 0 0;tone b 0 2;ring a b 1 1;tries 1;";
        Check.due("it can't be paid", Check.of(text).tried(0, 0, 9), 0);
        Check.due("it is free", Check.of(text).tried(5, 0, 9), 1);
        Check.due("whatever the law", Check.of(text + "law dear 999;").tried(5, 0, 9), 1);
        Check.due("even with an error", Check.of(text + "law dear 1/0;").tried(5, 0, 9), 1);
        String again = "man a 0 0;man b 0 0;tone b 0 2;ring a b 0 1;tries 2;law dear 0;law again 1+cost;";
        Check.due("cost is 5: tried at 6", Check.of(again).tried(0, 0, 9), 0);
        Check.due("cost is 0: tried at 1", Check.of(again).tried(5, 0, 9), 1);
        EngagedTone x = Check.of(text + "price 0 9;");
        x.tried(5, 0, 9);
        Check.due("nothing is free by that", x.price(0), 9);
    }

    /** What is tried otherwise, or drawn, is so for that one call alone. */
    private static void nothingLasts() {
        Check.says("TRIED for n QUARTERS: how many more are GIVEN UP");
        EngagedTone x = Check.of("man a 0 0;man b 0 0;man c 0 99;man d 0 0;tone b 0 2;tone c 0 3;ring a b 1 1;ring a c 2 1;"
            + "ring c d 3 9;ring a c 5 1;tries 1;lines 1;");
        int[] want = {2, 1, 0, 2, 0, 3};
        for (int round = 0; round < 2; round++) {
            for (int what = 0; what <= 5; what++) {
                Check.due("tried otherwise, " + what, x.tried(what, 0, 9), want[what]);
                Check.due("as it goes", x.tried(0, 0, 9), want[0]);
                Check.due("drawn", x.chance(what, 9, 0), 10);
                Check.due("through", x.ahead(9, 0, 0), 2);
                Check.due("paid", x.ahead(9, 2, 0), 15);
                Check.due("engaged", x.part(3, 99, 0), 1);
                Check.due("of so many", x.part(3, 99, 1), 11);
                Check.due("lines", x.lines(), -2);
            }
        }
    }

    private static void noSuchTried() {
        Check.says("TRIED (n 0 .. 99); NONE: no such ones (i 0 of all but 2).");
        EngagedTone x = Check.of(SIX);
        for (int what = 0; what <= 5; what++) {
            Check.due("n is 0", x.tried(what, 0, 0), 0);
            Check.due("n is 99", x.tried(what, 0, 99), 0);
            Check.due("n is 100", x.tried(what, 0, 100), -1);
            Check.due("n is -1", x.tried(what, 0, -1), -1);
            Check.due("i is 1", x.tried(what, 1, 1), what == 2 ? 0 : -1);
            Check.due("i is 5", x.tried(what, 5, 1), what == 2 ? 0 : -1);
            Check.due("i is 6", x.tried(what, 6, 1), -1);
            Check.due("i is -1", x.tried(what, -1, 1), -1);
            for (int wild : WILD) {
                Check.due("n is " + wild, x.tried(what, 0, wild), -1);
                Check.due("i is " + wild, x.tried(what, wild, 1), -1);
            }
        }
        Check.due("what is 6", x.tried(6, 0, 1), -1);
        Check.due("what is -1", x.tried(-1, 0, 1), -1);
        for (int wild : WILD) {
            Check.due("what is " + wild, x.tried(wild, 0, 1), -1);
        }
        Check.due("nobody", new EngagedTone().tried(2, 0, 1), -1);
        Check.due("nobody", new EngagedTone().tried(0, 0, 1), 0);
    }
}
