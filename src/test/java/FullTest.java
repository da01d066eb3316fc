/** One object of which every limit of the document is reached: each row inside it is full, and all still holds. */
final class FullTest {
    /** f buys tones for the quarters 0 to 7, a quarter each, so that e gets through at 8 alone. */
    private static final String PEOPLE = "man a 10 999;man b 20 999;man c 30 999;man d 40 999;man e 50 999;"
        + "man f 60 999;";
    private static final String TONES = "tone f 0 1;tone f 1 1;tone f 2 1;tone f 3 1;tone f 4 1;tone f 5 1;tone f 6 1;"
        + "tone f 7 1;";
    private static final String PRICES = "price 0 9;price 1 8;price 2 7;price 3 6;price 4 5;price 5 4;";
    private static final String CALLS = "ring a b 0 9;ring c d 0 9;ring e f 0 1;ring e f 1 1;ring e f 2 1;ring e f 3 1;"
        + "ring e f 4 1;ring e f 5 1;ring e f 6 1;ring e f 8 9;";
    /** 31 ones with the 30 signs between them, a not with its 0, and a 0: 64 knots. */
    private static final String LAWS = "law fame ((((((((1))))))))" + "+1".repeat(30) + ";law again not 0;law dear 0;";

    public static void main(String[] args) {
        toldAndAhead();
        goneBy();
        heard();
        done();
        Check.end();
    }

    private static EngagedTone full() {
        String text = PEOPLE + TONES + PRICES + CALLS + LAWS + "lines 6;tries 1;seed 99999;";
        EngagedTone x = new EngagedTone();
        Check.due("700 bytes", Check.feed(x, text + " ".repeat(700 - text.length())), 700);
        Check.due("a 701st", x.feed(0, 0, 0, 0, 0), -1);
        Check.due("all lines", x.text(700), 6 + 8 + 6 + 10 + 3 + 3);
        return x;
    }

    private static void answers(String call, long[] got, long... want) {
        for (int i = 0; i < want.length; i++) {
            Check.due(call + ", " + i, got[i], want[i]);
        }
    }

    private static void toldAndAhead() {
        EngagedTone x = full();
        answers("count", new long[] {x.count(0), x.count(1), x.count(2), x.count(3), x.count(5)}, 6, 8, 10, 64, 10);
        answers("price", new long[] {x.price(0), x.price(4), x.price(5), x.price(9999)}, 9, 5, 4, 4);
        answers("law", new long[] {x.law(0, 9), x.law(1, 5), x.law(2, 7)}, 1, 31, 0);
        answers("ahead", new long[] {x.ahead(9, 0, 0), x.ahead(9, 1, 0), x.ahead(9, 2, 0), x.ahead(99, 3, 5)},
            3, 7, 0, 8 * 31);
        answers("through", new long[] {x.through(0), x.through(2), x.through(8), x.through(9)}, 1, -2, -2, 9);
        answers("when", new long[] {x.when(2, 0), x.when(2, 1), x.when(9, 0), x.when(9, 1)}, 8, 10, 8, 18);
        Check.due("lines", x.lines(), -2);
        answers("stop", new long[] {x.stop(2), x.stop(8), x.stop(9)}, 1, 64, 0);
        answers("shift", new long[] {x.shift(0), x.shift(1), x.shift(2), x.shift(3)}, 3, 2, 1, 4);
        answers("auction", new long[] {x.auction(63, 0), x.auction(63, 1), x.auction(64, 0)}, 5, 50, -1);
        answers("part", new long[] {x.part(5, 20, 0), x.part(5, 20, 1), x.part(4, 20, 0), x.part(4, 20, 1)},
            17, 20, 9, 20);
        answers("chance", new long[] {x.chance(0, 9, 3), x.chance(0, 9, 4), x.chance(0, 8, 3), x.chance(0, 9, 10)},
            10, 0, 0, 0);
        answers("tried", new long[] {x.tried(0, 0, 9), x.tried(1, 0, 9), x.tried(2, 4, 9), x.tried(3, 0, 9),
            x.tried(4, 0, 9), x.tried(5, 0, 9)}, 7, 0, 0, 7, 0, 7);
        Check.due("a ninth tone", x.buy(0, 0, 1), -1);
    }

    private static void goneBy() {
        EngagedTone x = full();
        Check.due("go", x.go(9), 9);
        answers("count", new long[] {x.count(5), x.count(6), x.count(7), x.count(8), x.count(9), x.count(10),
            x.count(11)}, 0, 3, 0, 7, 0, 6, 10);
        answers("in which call", new long[] {x.man(0, 4), x.man(1, 4), x.man(2, 4), x.man(3, 4), x.man(4, 4),
            x.man(5, 4)}, 0, 0, 1, 1, 9, 9);
        answers("the last call", new long[] {x.ring(9, 0), x.ring(9, 1), x.ring(9, 2), x.ring(9, 3), x.ring(9, 4),
            x.ring(9, 5)}, 4, 5, 8, 9, 1, 1);
        answers("the last tone", new long[] {x.tone(7, 0), x.tone(7, 1), x.tone(7, 2), x.tone(7, 3)}, 5, 7, 1, 2);
        Check.due("fame of f", x.man(5, 2), 8 * 31);
        Check.due("busiest", x.busiest(), 5);
        answers("hard", new long[] {x.hard(5), x.hard(1), x.hard(0)}, 4 + 8 + 16 + 32 + 64 + 128 + 256, 0, 0);
        answers("round", new long[] {x.round(4, 5), x.round(5, 4), x.round(0, 5), x.round(5, 5)}, 1, 1, -2, 0);
        Check.due("hang", x.hang(9), 8);
        Check.due("f is in no call", x.man(5, 4), -1);
        Check.due("undo", x.undo(), 0);
        Check.due("f is in the last one", x.man(5, 4), 9);
        Check.due("go", x.go(1), 10);
        answers("of the first two", new long[] {x.count(6), x.count(7), x.man(0, 4), x.man(3, 4)}, 1, 2, -1, -1);
    }

    private static void heard() {
        EngagedTone x = full();
        for (int quarter = 0; quarter <= 17; quarter++) {
            Check.due("f was engaged up to 16", x.hear(quarter, 5, quarter < 17), quarter);
        }
        answers("a was up to 8", new long[] {x.hear(0, 0, true), x.hear(8, 0, true), x.hear(9, 0, false)}, 18, 19, 20);
        Check.due("what isn't so", x.hear(60, 5, true), 21);
        Check.due("no length does", x.spans(7), 0);
        Check.due("it is struck", x.out(21), 22);
        Check.due("the last one", x.hear(60, 5, false), 23);
        Check.due("a 25th", x.hear(60, 5, false), -1);
        // A tone of 9 quarters from 0 on, or of 2 to 9 from 7 on, keeps e from f at 8, and ends ahead of 16.
        answers("by all 24", new long[] {x.spans(0), x.spans(7), x.count(13)}, 255, 1 + 512, 24);
        Check.due("by 22", x.known(22), true);
        answers("by 22", new long[] {x.spans(0), x.spans(7), x.count(13)}, 0, 0, 22);
        Check.due("by 23", x.known(23), true);
        answers("by 23", new long[] {x.spans(0), x.spans(7), x.count(13)}, 255, 1 + 512, 23);
        Check.due("by 24", x.known(24), true);
        answers("by 24", new long[] {x.spans(0), x.spans(7), x.count(13)}, 255, 1 + 512, 24);
    }

    private static void done() {
        EngagedTone x = full();
        for (int i = 1; i <= 25; i++) {
            Check.due("lend", x.lend(5, i), 999 + i * (i + 1) / 2);
            Check.due("what can be undone", x.count(14), Math.min(i, 20));
        }
        for (int i = 25; i > 5; i--) {
            Check.due("undo", x.undo(), i - 6);
            Check.due("the latest first", x.man(5, 1), 999 + i * (i - 1) / 2);
        }
        Check.due("no more than 20", x.undo(), -1);
        Check.due("so the first five stay", x.man(5, 1), 999 + 15);
    }
}
