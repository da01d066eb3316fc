/** Promises 11 to 14 and 35 to 37: buy, put, hang, lend, undo, keep, back. */
final class DeedTest {
    private static final String TEXT = "man a 35 60;man b 20 10;man c 5 999;tone a 4 2;"
        + "ring b a 0 3;ring c b 2 2;ring c a 9 1;";

    public static void main(String[] args) {
        buying();
        putting();
        hanging();
        lending();
        undoing();
        undoingTwenty();
        images();
        Check.end();
    }

    private static void buying() {
        EngagedTone x = Check.of(TEXT);
        x.go(3);
        Check.due("buy(0, 2, 1)", x.buy(0, 2, 1), -1);
        Check.due("buy(3, 3, 1)", x.buy(3, 3, 1), -1);
        Check.due("buy(-1, 3, 1)", x.buy(-1, 3, 1), -1);
        Check.due("buy(0, 3, 0)", x.buy(0, 3, 0), -1);
        Check.due("buy(0, 3, 17)", x.buy(0, 3, 17), -1);
        Check.due("buy(0, 10000, 1)", x.buy(0, 10000, 1), -1);
        Check.due("buy(1, 3, 2)", x.buy(1, 3, 2), 1);
        Check.due("buy(1, 9999, 16)", x.buy(1, 9999, 16), 2);
        Check.due("whose", x.tone(2, 0), 1);
        Check.due("from", x.tone(2, 1), 9999);
        Check.due("for", x.tone(2, 2), 16);
        Check.due("to begin", x.tone(2, 3), 0);
        for (int i = 3; i < 8; i++) {
            Check.due("buy " + i, x.buy(0, 50, 1), i);
        }
        Check.due("a ninth", x.buy(0, 50, 1), -1);
        Check.due("tones", x.count(1), 8);
        x.go(1);
        Check.due("it runs", x.tone(1, 3), 1);
        Check.due("it is paid", x.man(1, 1), 0);
        Check.due("it is engaged", x.man(1, 3), 1);
    }

    private static void putting() {
        EngagedTone x = Check.of(TEXT);
        x.go(1);
        Check.due("speaking", x.put(0, 5), false);
        Check.due("no such ring", x.put(3, 5), false);
        Check.due("no such ring", x.put(-1, 5), false);
        Check.due("gone by", x.put(1, 0), false);
        Check.due("due then", x.put(1, 2), false);
        Check.due("too far", x.put(1, 10000), false);
        Check.due("nothing done", x.count(14), 0);
        Check.due("far", x.put(1, 9999), true);
        Check.due("due", x.ring(1, 2), 9999);
        Check.due("now", x.put(1, 1), true);
        Check.due("due now", x.ring(1, 2), 1);
        x.go(1);
        Check.due("tried now", x.ring(1, 5), 1);
        Check.due("put again", x.put(1, 8), true);
        Check.due("tried stays", x.ring(1, 5), 1);
    }

    private static void hanging() {
        EngagedTone x = Check.of(TEXT);
        Check.due("no such ring", x.hang(3), -1);
        Check.due("no such ring", x.hang(-1), -1);
        Check.due("waiting", x.hang(0), -2);
        x.go(1);
        Check.due("two yet", x.hang(0), 2);
        Check.due("over", x.ring(0, 4), 2);
        Check.due("got through at", x.ring(0, 2), 0);
        Check.due("over already", x.hang(0), -2);
        Check.due("b is free", x.man(1, 3), 0);
        EngagedTone y = Check.of(TEXT);
        y.go(3);
        Check.due("none yet", y.hang(0), 0);
    }

    private static void lending() {
        EngagedTone x = Check.of(TEXT);
        Check.due("lend(0, 0)", x.lend(0, 0), -1);
        Check.due("lend(0, 100)", x.lend(0, 100), -1);
        Check.due("lend(3, 1)", x.lend(3, 1), -1);
        Check.due("lend(-1, 1)", x.lend(-1, 1), -1);
        Check.due("lend(0, 1)", x.lend(0, 1), 61);
        Check.due("lend(0, 99)", x.lend(0, 99), 160);
        int purse = 999;
        for (int i = 0; i < 90; i++) {
            purse += 99;
            Check.due("lend(2, 99)", x.lend(2, 99), purse);
        }
        Check.due("purse", x.man(2, 1), 9909);
        Check.due("lend(2, 91)", x.lend(2, 91), -1);
        Check.due("lend(2, 90)", x.lend(2, 90), 9999);
        Check.due("lend(2, 1)", x.lend(2, 1), -1);
    }

    private static void undoing() {
        EngagedTone x = Check.of(TEXT);
        x.go(1);
        Check.due("nothing", x.undo(), -1);
        x.lend(1, 30);
        x.put(1, 7);
        x.buy(1, 5, 2);
        x.hang(0);
        Check.due("four", x.count(14), 4);
        x.go(0);
        Check.due("four yet", x.count(14), 4);
        x.lend(1, 0);
        x.put(1, 7);
        x.hang(0);
        Check.due("what wasn't done isn't undone", x.count(14), 4);
        Check.due("undo hang", x.undo(), 3);
        Check.due("speaking", x.ring(0, 4), 1);
        Check.due("undo buy", x.undo(), 2);
        Check.due("tones", x.count(1), 1);
        Check.due("undo put", x.undo(), 1);
        Check.due("due", x.ring(1, 2), 2);
        Check.due("undo lend", x.undo(), 0);
        Check.due("purse", x.man(1, 1), 10);
        Check.due("nothing left", x.undo(), -1);
        x.lend(1, 30);
        x.go(1);
        Check.due("a quarter went by", x.undo(), -1);
        Check.due("none", x.count(14), 0);
        Check.due("purse stays", x.man(1, 1), 40);
    }

    private static void undoingTwenty() {
        EngagedTone x = Check.of(TEXT);
        for (int i = 1; i <= 25; i++) {
            x.lend(0, i);
            Check.due("can be undone", x.count(14), Math.min(20, i));
        }
        for (int i = 19; i >= 0; i--) {
            Check.due("undo", x.undo(), i);
        }
        Check.due("undo", x.undo(), -1);
        Check.due("five stay", x.man(0, 1), 60 + 1 + 2 + 3 + 4 + 5);
    }

    private static void images() {
        EngagedTone x = Check.of(TEXT);
        Check.due("none", x.back(), -1);
        x.lend(0, 7);
        Check.due("keep()", x.keep(), 0);
        Check.due("undo yet", x.count(14), 1);
        x.buy(0, 0, 3);
        x.put(2, 3);
        x.go(6);
        x.hear(3, 0, true);
        x.lend(0, 1);
        Check.due("back()", x.back(), 0);
        Check.due("nothing to undo", x.count(14), 0);
        Check.due("heard stays", x.count(12), 1);
        int[] want = {3, 1, 3, 0, 0, 3, 0, 0, 0, 0, 0, 0, 1, 1, 0};
        for (int what = 0; what < want.length; what++) {
            Check.due("count(" + what + ")", x.count(what), want[what]);
        }
        Check.due("purse", x.man(0, 1), 67);
        Check.due("fame", x.man(0, 2), 0);
        Check.due("due", x.ring(2, 2), 9);
        x.go(4);
        Check.due("back again", x.back(), 0);
        x.go(2);
        Check.due("in place of it", x.keep(), 2);
        x.go(5);
        Check.due("back to that", x.back(), 2);
        Check.due("speaking then", x.ring(0, 4), 1);
        x.text(0);
        Check.due("no image of another text", x.back(), -1);
    }
}
