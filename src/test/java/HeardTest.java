/** Promises 29 to 32: hear, out, known, spans. */
final class HeardTest {
    private static final String TEXT = "man a 5 99;man b 5 99;man c 5 0;tone a 2 3;tone b 0 1;ring c b 1 2;";

    public static void main(String[] args) {
        hearing();
        striking();
        knowing();
        spans();
        fromTheTextOn();
        spansAndMoney();
        Check.end();
    }

    private static void hearing() {
        EngagedTone x = Check.of(TEXT);
        Check.due("hear(61, 0)", x.hear(61, 0, true), -1);
        Check.due("hear(-1, 0)", x.hear(-1, 0, true), -1);
        Check.due("hear(0, 3)", x.hear(0, 3, true), -1);
        Check.due("hear(0, -1)", x.hear(0, -1, true), -1);
        Check.due("out(0)", x.out(0), -1);
        Check.due("hear(60, 2)", x.hear(60, 2, false), 0);
        Check.due("out(1)", x.out(1), -1);
        Check.due("out(-1)", x.out(-1), -1);
        Check.due("out(0)", x.out(0), 1);
        Check.due("out(1)", x.out(1), 2);
        for (int i = 3; i < 24; i++) {
            Check.due("hear", x.hear(i, 0, true), i);
        }
        Check.due("a 25th", x.hear(0, 0, true), -1);
        Check.due("a 25th", x.out(0), -1);
        Check.due("heard", x.count(12), 24);
    }

    private static void striking() {
        EngagedTone x = Check.of(TEXT);
        x.hear(4, 0, false);
        Check.due("1 or 2", x.spans(0), 3);
        x.out(0);
        Check.due("struck", x.spans(0), 1023);
        x.out(1);
        Check.due("what strikes is struck", x.spans(0), 3);
        x.out(2);
        Check.due("and that, too", x.spans(0), 1023);
        x.out(1);
        Check.due("struck otherwise", x.spans(0), 3);
        x.known(3);
        Check.due("the first three", x.spans(0), 3);
        x.known(2);
        Check.due("the first two", x.spans(0), 1023);
        x.known(4);
        Check.due("the first four", x.spans(0), 1023);
    }

    private static void knowing() {
        EngagedTone x = Check.of(TEXT);
        x.hear(4, 0, true);
        x.hear(6, 0, false);
        Check.due("known(3)", x.known(3), false);
        Check.due("known(-2)", x.known(-2), false);
        Check.due("3 or 4", x.spans(0), 12);
        Check.due("known(1)", x.known(1), true);
        Check.due("3 at least", x.spans(0), 1020);
        Check.due("by one", x.count(13), 1);
        Check.due("known(2)", x.known(2), true);
        x.hear(5, 0, true);
        Check.due("by two", x.count(13), 2);
        Check.due("not the third", x.spans(0), 12);
        Check.due("known(-1)", x.known(-1), true);
        Check.due("by three", x.count(13), 3);
        Check.due("4", x.spans(0), 8);
        x.hear(7, 0, true);
        Check.due("also those to come", x.count(13), 4);
        Check.due("none", x.spans(0), 0);
        Check.due("known(0)", x.known(0), true);
        Check.due("by none", x.spans(0), 1023);
    }

    private static void spans() {
        EngagedTone x = Check.of(TEXT);
        Check.due("spans(2)", x.spans(2), -1);
        Check.due("spans(-1)", x.spans(-1), -1);
        x.buy(0, 9, 1);
        Check.due("a tone that was bought", x.spans(2), -1);
        Check.due("nothing heard", x.spans(1), 1023);
        x.hear(1, 2, true);
        Check.due("c spoke at 1 only if the tone of b was 1", x.spans(1), 1);
        x.known(0);
        x.hear(2, 2, false);
        x.known(-1);
        x.out(0);
        Check.due("c didn't speak at 2: it was 3 at least", x.spans(1), 1020);
    }

    private static void fromTheTextOn() {
        EngagedTone x = Check.of(TEXT);
        x.buy(0, 0, 16);
        x.put(0, 9);
        x.go(7);
        x.hear(0, 0, false);
        x.hear(2, 2, true);
        Check.due("nothing done by call counts", x.spans(0), 1023);
        x.hear(12, 0, false);
        Check.due("10 end with quarter 11", x.spans(0), 1023);
        x.hear(11, 0, true);
        Check.due("just 10", x.spans(0), 512);
    }

    private static void spansAndMoney() {
        EngagedTone x = Check.of("man a 5 20;tone a 0 1;price 0 5;");
        x.hear(0, 0, true);
        Check.due("more than 4 can't be paid", x.spans(0), 15);
        EngagedTone y = Check.of("man a 5 20;tone a 60 1;");
        y.hear(60, 0, false);
        Check.due("quarter 60", y.spans(0), 1023 - 15);
    }
}
