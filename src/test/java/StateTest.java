import java.util.NoSuchElementException;

/** Promises 6 to 10, 15 and 38: ring, man, tone, price, law, go, count. */
final class StateTest {
    /** The tone of a keeps b out twice; then one line keeps c out till b is over. */
    private static final String ONE_LINE = "man a 35 60;man b 20 10;man c 5 0;tone a 0 2;tone c 1 1;"
        + "ring b a 0 3;ring c b 2 2;ring c a 3 1;lines 1;tries 4;";

    public static void main(String[] args) {
        quarters();
        wrongAsked();
        prices();
        arithmetic();
        errors();
        names();
        lawsOfWhom();
        clampedLaws();
        famedAtMost();
        goingFar();
        counts();
        Check.end();
    }

    private static void ring(EngagedTone x, int ring, int... want) {
        for (int what = 0; what < want.length; what++) {
            Check.due("ring(" + ring + ", " + what + ") at " + x.count(4), x.ring(ring, what), want[what]);
        }
    }

    private static void man(EngagedTone x, int man, int... want) {
        for (int what = 0; what < want.length; what++) {
            Check.due("man(" + man + ", " + what + ") at " + x.count(4), x.man(man, what), want[what]);
        }
    }

    private static void tone(EngagedTone x, int tone, int... want) {
        for (int what = 0; what < want.length; what++) {
            Check.due("tone(" + tone + ", " + what + ") at " + x.count(4), x.tone(tone, what), want[what]);
        }
    }

    private static void quarters() {
        EngagedTone x = Check.of(ONE_LINE);
        ring(x, 0, 1, 0, 0, 3, 0, 0);
        man(x, 0, 35, 60, 0, 0, -1);
        tone(x, 0, 0, 0, 2, 0);
        Check.due("go(1)", x.go(1), 1);
        ring(x, 0, 1, 0, 1, 3, 0, 1);
        man(x, 0, 35, 50, 4, 1, -1);
        tone(x, 0, 0, 0, 2, 1);
        tone(x, 1, 2, 1, 1, 0);
        Check.due("go(1)", x.go(1), 2);
        tone(x, 0, 0, 0, 2, 1);
        tone(x, 1, 2, 1, 1, 3);
        man(x, 0, 35, 50, 8, 1, -1);
        man(x, 2, 5, 0, 0, 0, -1);
        Check.due("go(1)", x.go(1), 3);
        tone(x, 0, 0, 0, 2, 2);
        ring(x, 0, 1, 0, 2, 3, 1, 3);
        ring(x, 1, 2, 1, 3, 2, 0, 1);
        man(x, 0, 35, 50, 8, 1, 0);
        man(x, 1, 20, 10, 0, 1, 0);
        Check.due("go(2)", x.go(2), 5);
        ring(x, 0, 1, 0, 2, 3, 1, 3);
        ring(x, 1, 2, 1, 5, 2, 0, 3);
        Check.due("go(1)", x.go(1), 6);
        ring(x, 0, 1, 0, 2, 3, 2, 3);
        ring(x, 1, 2, 1, 5, 2, 1, 4);
        ring(x, 2, 2, 0, 6, 1, 0, 3);
        man(x, 2, 5, 0, 0, 1, 1);
        Check.due("go(1)", x.go(1), 7);
        ring(x, 2, 2, 0, 6, 1, 3, 4);
        ring(x, 1, 2, 1, 5, 2, 1, 4);
        Check.due("go(1)", x.go(1), 8);
        ring(x, 1, 2, 1, 5, 2, 2, 4);
        man(x, 2, 5, 0, 0, 0, -1);
    }

    private static int thrown(EngagedTone x, int ring, int what) {
        try {
            x.ring(ring, what);
            return 0;
        } catch (IndexOutOfBoundsException e) {
            return 1;
        } catch (NoSuchElementException e) {
            return 2;
        }
    }

    private static void wrongAsked() {
        EngagedTone x = Check.of(ONE_LINE);
        Check.due("ring(3, 0)", thrown(x, 3, 0), 1);
        Check.due("ring(-1, 0)", thrown(x, -1, 0), 1);
        Check.due("ring(3, 9)", thrown(x, 3, 9), 1);
        Check.due("ring(2, 6)", thrown(x, 2, 6), 2);
        Check.due("ring(2, -1)", thrown(x, 2, -1), 2);
        Check.due("ring(2, 5)", thrown(x, 2, 5), 0);
        Check.due("man(3, 0)", x.man(3, 0), -1);
        Check.due("man(-1, 0)", x.man(-1, 0), -1);
        Check.due("man(0, 5)", x.man(0, 5), -1);
        Check.due("man(0, -1)", x.man(0, -1), -1);
        Check.due("tone(2, 0)", x.tone(2, 0), -1);
        Check.due("tone(-1, 0)", x.tone(-1, 0), -1);
        Check.due("tone(0, 4)", x.tone(0, 4), -1);
        Check.due("tone(0, -1)", x.tone(0, -1), -1);
        Check.due("count(15)", x.count(15), -1);
        Check.due("count(-1)", x.count(-1), -1);
    }

    private static void prices() {
        EngagedTone x = Check.of("price 10 7;price 3 20;price 10 8;price 4 0;");
        Check.due("price(0)", x.price(0), 5);
        Check.due("price(2)", x.price(2), 5);
        Check.due("price(3)", x.price(3), 20);
        Check.due("price(4)", x.price(4), 0);
        Check.due("price(9)", x.price(9), 0);
        Check.due("price(10)", x.price(10), 8);
        Check.due("price(9999)", x.price(9999), 8);
        Check.due("price(10000)", x.price(10000), -1);
        Check.due("price(-1)", x.price(-1), -1);
    }

    private static void worth(String expression, long want) {
        Check.due(expression, Check.of("man a 35 60;law fame " + expression + ";").law(1, 0), want);
    }

    private static void arithmetic() {
        worth("1+2*3", 7);
        worth("(1+2)*3", 9);
        worth("10-3-2", 5);
        worth("100/10/2", 5);
        worth("100/10*2", 20);
        worth("7/2", 3);
        worth("(0-7)/2", -3);
        worth("7/(0-2)", -3);
        worth("not 0", 1);
        worth("not 5", 0);
        worth("not not 5", 1);
        worth("3 and 2", 1);
        worth("0 or 7", 1);
        worth("0 or 0", 0);
        worth("not 1<2", 0);
        worth("not 2<1", 1);
        worth("not 0+1", 0);
        worth("not 0 and 0", 0);
        worth("not 0 or 1", 1);
        worth("1 or 0 and 0", 1);
        worth("0 and 0 or 1", 1);
        worth("(1 or 0) and 0", 0);
        worth("1<2", 1);
        worth("2<2", 0);
        worth("2<=2", 1);
        worth("3<=2", 0);
        worth("2=2", 1);
        worth("2=3", 0);
        worth("2<>2", 0);
        worth("2<>3", 1);
        worth("2>=2", 1);
        worth("2>=3", 0);
        worth("3>2", 1);
        worth("2>2", 0);
        worth("1+1=2 and 3>2*1", 1);
    }

    private static void errors() {
        long error = Long.MIN_VALUE;
        worth("1000*1000*1000*1000", 1000000000000L);
        worth("1000*1000*1000*1000+1", error);
        worth("0-1000*1000*1000*1000", -1000000000000L);
        worth("0-1000*1000*1000*1000-1", error);
        worth("1000*1000*1000*1001", error);
        worth("(1000*1000*1000*1000)*(1000*1000*1000*1000)", error);
        worth("(0-1000*1000*1000*1000)*(1000*1000*1000*1000)", error);
        worth("4096*4096*4096*(4096*4096*4096)", error);
        worth("1*(0-1000*1000*1000*1000)", -1000000000000L);
        worth("(0-1000*1000*1000*1000)*1", -1000000000000L);
        worth("(0-1000*1000*1000*1000)*(0-1)", 1000000000000L);
        worth("2*(0-1000*1000*1000*1000)", error);
        worth("0*(1000*1000*1000*1000)", 0);
        worth("(1000*1000*1000*1000)*0", 0);
        worth("1/0", error);
        worth("0/0", error);
        worth("0*(1/0)", error);
        worth("1 or 1/0", error);
        worth("0 and 1/0", error);
        worth("not 1/0", error);
    }

    private static void names() {
        EngagedTone x = Check.of("man a 35 60;man b 20 10;tone a 0 1;ring b a 0 1;price 1 9;tries 9;"
            + "law again turn*1000+purse*10+vain;law fame busy*100+cost*10+time;law dear known*10+turn;");
        Check.due("turn, purse, vain", x.law(0, 0), 1000 + 100 + 20);
        Check.due("busy, cost, time", x.law(1, 0), 50);
        Check.due("known", x.law(2, 0), 0);
        x.go(1);
        Check.due("turn of one tried once", x.law(0, 0), 2000 + 100 + 20);
        Check.due("busy, cost, time at 1", x.law(1, 1), 100 + 90 + 1);
        Check.due("known is the fame of the tone's person", x.law(2, 0), 99 * 10);
        Check.due("fame was 99 at most", x.man(0, 2), 99);
    }

    private static void lawsOfWhom() {
        EngagedTone x = Check.of("man a 35 60;man b 20 10;tone b 0 1;ring b a 0 1;"
            + "law again vain;law fame vain;law dear vain;");
        Check.due("of the one who calls", x.law(0, 0), 20);
        Check.due("of the person", x.law(1, 0), 35);
        Check.due("of the tone's person", x.law(2, 0), 20);
        long none = Long.MIN_VALUE;
        Check.due("law(0, 1)", x.law(0, 1), none);
        Check.due("law(0, -1)", x.law(0, -1), none);
        Check.due("law(1, 2)", x.law(1, 2), none);
        Check.due("law(1, -1)", x.law(1, -1), none);
        Check.due("law(2, 1)", x.law(2, 1), none);
        Check.due("law(2, -1)", x.law(2, -1), none);
        Check.due("law(3, 0)", x.law(3, 0), none);
        Check.due("law(-1, 0)", x.law(-1, 0), none);
        EngagedTone y = Check.of("man a 35 60;man b 20 10;tone b 0 1;ring b a 0 1;");
        for (int what = 0; what < 3; what++) {
            Check.due("law(" + what + ", 0) without one", y.law(what, 0), none);
        }
    }

    private static int costBy(String law, String price) {
        EngagedTone x = Check.of("man a 35 999;tone a 0 16;" + price + law);
        x.go(1);
        return x.count(9);
    }

    private static int againBy(String law) {
        EngagedTone x = Check.of("man a 35 999;man b 1 1;tone a 0 16;ring b a 0 1;" + law);
        x.go(1);
        return x.ring(0, 2);
    }

    private static int fameBy(String law) {
        EngagedTone x = Check.of("man a 35 999;tone a 0 1;" + law);
        x.go(1);
        return x.man(0, 2);
    }

    private static void clampedLaws() {
        Check.due("cost without a law", costBy("", ""), 80);
        Check.due("cost without a law, 999 at most", costBy("", "price 0 99;"), 999);
        Check.due("cost with an error", costBy("law dear 1/0;", ""), 80);
        Check.due("cost by law", costBy("law dear 41;", ""), 41);
        Check.due("cost by law, 999 at most", costBy("law dear 2000;", ""), 999);
        Check.due("cost by law, 0 at least", costBy("law dear 0-5;", ""), 0);
        Check.due("again without a law", againBy(""), 1);
        Check.due("again with an error", againBy("law again 5/(turn-1);"), 1);
        Check.due("again by law", againBy("law again 4;"), 4);
        Check.due("again, 9 at most", againBy("law again 10;"), 9);
        Check.due("again, 1 at least", againBy("law again 0;"), 1);
        Check.due("again of turn 1, busy 1", againBy("law again turn+busy*3;"), 4);
        Check.due("fame without a law", fameBy(""), 4);
        Check.due("fame with an error", fameBy("law fame 9/0;"), 4);
        Check.due("fame by law", fameBy("law fame 7;"), 7);
        Check.due("fame, 99 at most", fameBy("law fame 100;"), 99);
        Check.due("fame, 0 at least", fameBy("law fame 0-1;"), 0);
        Check.due("busy of dear: the tone not yet", costBy("law dear busy*10+3;", ""), 3);
    }

    private static void famedAtMost() {
        EngagedTone x = Check.of("man a 35 999;law fame 99;law dear 0;");
        for (int i = 0; i < 8; i++) {
            x.buy(0, x.count(4), 16);
            x.go(15);
        }
        Check.due("fame", x.man(0, 2), 9999);
        Check.due("busiest", x.busiest(), 0);
    }

    private static void goingFar() {
        EngagedTone x = new EngagedTone();
        Check.due("go(100)", x.go(100), -1);
        Check.due("go(-1)", x.go(-1), -1);
        Check.due("go(0)", x.go(0), 0);
        for (int i = 1; i <= 99; i++) {
            Check.due("go(99)", x.go(99), 99 * i);
        }
        Check.due("go(98)", x.go(98), 9899);
        Check.due("go(2)", x.go(2), -1);
        Check.due("quarter", x.count(4), 9899);
        Check.due("go(1)", x.go(1), 9900);
        Check.due("go(1)", x.go(1), -1);
        Check.due("go(0)", x.go(0), 9900);
    }

    private static void counts() {
        EngagedTone x = Check.of(ONE_LINE);
        x.go(6);
        x.hear(1, 1, true);
        x.hear(2, 1, true);
        x.known(1);
        x.lend(0, 1);
        int[] want = {3, 2, 3, 0, 6, 1, 1, 1, 0, 10, 2, 10, 2, 1, 1};
        for (int what = 0; what < want.length; what++) {
            Check.due("count(" + what + ")", x.count(what), want[what]);
        }
        x.go(1);
        Check.due("given up", x.count(8), 1);
        x.known(-1);
        Check.due("known by all", x.count(13), 2);
    }
}
