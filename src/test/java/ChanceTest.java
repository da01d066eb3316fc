/** Promises 33 and 34: chance, tried. */
final class ChanceTest {
    public static void main(String[] args) {
        chances();
        drawnLengths();
        wrongChances();
        tried();
        triedFree();
        wrongTried();
        Check.end();
    }

    private static void chances() {
        EngagedTone x = Check.of("man a 1 0;man b 1 0;ring a b 0 9;ring b a 3 9;tries 1;");
        Check.due("one at least", x.chance(7, 9, 1), 10);
        Check.due("three at least", x.chance(7, 9, 3), 0);
        Check.due("none at least", x.chance(7, 9, 0), 10);
        Check.due("both in 3", x.chance(7, 3, 2), 0);
        x.go(1);
        Check.due("one more of that which speaks for its own length", x.chance(7, 99, 1), 0);
        EngagedTone y = Check.of("man a 1 0;man b 1 0;seed 5;");
        Check.due("without calls", y.chance(0, 1, 0), 10);
        Check.due("without calls", y.chance(0, 1, 1), 0);
    }

    /** How often of ten the first call drawn is at most 3 long, two numbers drawn where it is. */
    private static int bothThrough(long seed) {
        long last = seed;
        int times = 0;
        for (int i = 0; i < 10; i++) {
            last = (last * 1103515245L + 12345L) % 2147483648L;
            if (last / 65536 % 9 + 1 <= 3) {
                times++;
                last = (last * 1103515245L + 12345L) % 2147483648L;
            }
        }
        return times;
    }

    private static void drawnLengths() {
        EngagedTone x = Check.of("man a 1 0;man b 1 0;ring a b 0 9;ring b a 3 9;tries 1;seed 77;");
        int differ = 0;
        for (int seed : new int[] {0, 1, 2, 3, 4, 5, 6, 7, 99999, 2147483647}) {
            Check.due("chance(" + seed + ", 4, 2)", x.chance(seed, 4, 2), bothThrough(seed));
            Check.due("chance(" + seed + ", 99, 2)", x.chance(seed, 99, 2), bothThrough(seed));
            differ |= 1 << bothThrough(seed);
        }
        Check.due("the seeds differ", Integer.bitCount(differ) > 2, true);
    }

    private static void wrongChances() {
        EngagedTone x = Check.of("man a 1 0;man b 1 0;ring a b 0 9;");
        Check.due("chance(-1, 1, 0)", x.chance(-1, 1, 0), -1);
        Check.due("chance(0, 0, 0)", x.chance(0, 0, 0), -1);
        Check.due("chance(0, 100, 0)", x.chance(0, 100, 0), -1);
        Check.due("chance(0, 1, -1)", x.chance(0, 1, -1), -1);
        Check.due("chance(0, 1, 11)", x.chance(0, 1, 11), -1);
        Check.due("chance(2147483647, 99, 10)", x.chance(2147483647, 99, 10), 0);
    }

    private static void tried() {
        EngagedTone x = Check.of("man a 1 99;man b 1 0;man c 1 0;man d 1 0;man e 1 0;man f 1 0;"
            + "tone a 0 4;ring b a 0 2;ring c d 0 9;ring e f 0 9;ring f c 3 1;tries 2;lines 1;");
        // As it goes: b at a twice, e at one line twice, f at c twice.
        Check.due("as it goes", x.tried(0, 0, 9), 3);
        Check.due("as it goes, 1", x.tried(0, 0, 1), 0);
        Check.due("as it goes, 2", x.tried(0, 0, 2), 2);
        Check.due("as it goes, 0", x.tried(0, 0, 0), 0);
        Check.due("no tones: b has the line at 0 and 1, c and e give up, f speaks", x.tried(1, 0, 99), 2);
        Check.due("b calls nobody", x.tried(2, 1, 9), 2);
        Check.due("c calls nobody: e speaks, f is in it", x.tried(2, 2, 9), 2);
        Check.due("six lines", x.tried(3, 0, 9), 2);
        Check.due("nine tries: b and e at 8 for the last time, f gets through at 9", x.tried(4, 0, 99), 2);
        x.go(1);
        Check.due("no tones any more", x.tried(1, 0, 9), 3);
        x.go(1);
        Check.due("more given up", x.tried(0, 0, 9), 1);
    }

    private static void triedFree() {
        EngagedTone x = Check.of("man a 1 0;man b 1 0;tone a 0 3;ring b a 0 1;tries 2;");
        Check.due("a can't pay", x.tried(0, 0, 9), 0);
        Check.due("all is free", x.tried(5, 0, 9), 1);
        EngagedTone y = Check.of("man a 1 0;man b 1 0;tone a 0 3;ring b a 0 1;tries 2;law dear 7;law again cost+1;");
        Check.due("whatever the law; cost is 0, so that it is tried at 1", y.tried(5, 0, 9), 1);
        EngagedTone z = Check.of("man a 1 99;man b 1 0;tone a 0 3;ring b a 0 1;tries 2;law again cost+1;");
        Check.due("cost is 5, so that it is tried at 6", z.tried(0, 0, 9), 0);
        Check.due("cost is 0", z.tried(5, 0, 9), 1);
    }

    private static void wrongTried() {
        EngagedTone x = Check.of("man a 1 0;man b 1 0;");
        Check.due("tried(6, 0, 1)", x.tried(6, 0, 1), -1);
        Check.due("tried(-1, 0, 1)", x.tried(-1, 0, 1), -1);
        Check.due("tried(0, 1, 1)", x.tried(0, 1, 1), -1);
        Check.due("tried(5, -1, 1)", x.tried(5, -1, 1), -1);
        Check.due("tried(2, 2, 1)", x.tried(2, 2, 1), -1);
        Check.due("tried(2, -1, 1)", x.tried(2, -1, 1), -1);
        Check.due("tried(0, 0, 100)", x.tried(0, 0, 100), -1);
        Check.due("tried(0, 0, -1)", x.tried(0, 0, -1), -1);
        Check.due("tried(2, 1, 99)", x.tried(2, 1, 99), 0);
        Check.due("tried(0, 0, 99)", x.tried(0, 0, 99), 0);
    }
}
