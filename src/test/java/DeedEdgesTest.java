/** Each sentence of ==== 4 and of promises 11 to 14 and 35 to 37 that names an edge, in the document's order. */
final class DeedEdgesTest {
    private static final int LEAST = Integer.MIN_VALUE;
    private static final int MOST = Integer.MAX_VALUE;
    private static final String AB = "man a 50 99;man b 20 99;";

    public static void main(String[] args) {
        latestFirst();
        twentyAtMost();
        noQuarterSince();
        imageKeepsAll();
        buying();
        noSuchBuying();
        eightTones();
        putting();
        noSuchPutting();
        notWaiting();
        hanging();
        notSpeaking();
        lending();
        noSuchLending();
        fullPurse();
        undoing();
        keeping();
        goingBack();
        Check.end();
    }

    private static void latestFirst() {
        Check.says("Buying, putting off, hanging up, lending by call can be undone, the latest first");
        EngagedTone x = Check.of(AB + "man c 0 0;ring a b 0 9;ring c a 5 1;", 1);
        x.lend(0, 1);
        x.put(1, 6);
        x.buy(1, 3, 1);
        x.hang(0);
        x.put(1, 7);
        x.buy(2, 4, 2);
        x.lend(0, 2);
        Check.due("undo", x.undo(), 6);
        Check.due("lent less", x.man(0, 1), 100);
        Check.due("undo", x.undo(), 5);
        Check.due("one tone", x.count(1), 1);
        Check.due("undo", x.undo(), 4);
        Check.due("put before", x.ring(1, 2), 6);
        Check.due("undo", x.undo(), 3);
        Check.due("speaking", x.ring(0, 4), 1);
        Check.due("engaged", x.man(1, 4), 0);
        Check.due("undo", x.undo(), 2);
        Check.due("no tone", x.count(1), 0);
        Check.due("undo", x.undo(), 1);
        Check.due("as told", x.ring(1, 2), 5);
        Check.due("undo", x.undo(), 0);
        Check.due("purse", x.man(0, 1), 99);
        Check.due("undo", x.undo(), -1);
        Check.due("hung up in time", x.hang(0), 8);
        x.undo();
        x.go(8);
        Check.due("it speaks as long as told", x.ring(0, 4), 1);
        x.go(1);
        Check.due("and no longer", x.ring(0, 4), 2);
    }

    private static void twentyAtMost() {
        Check.says("the latest first (20 at most)");
        EngagedTone x = Check.of("man a 1 0;");
        for (int i = 1; i <= 19; i++) {
            x.lend(0, 1);
        }
        Check.due("19", x.count(14), 19);
        x.lend(0, 1);
        Check.due("20", x.count(14), 20);
        x.lend(0, 10);
        Check.due("20 of 21", x.count(14), 20);
        Check.due("the 21st", x.undo(), 19);
        Check.due("purse", x.man(0, 1), 20);
        for (int i = 18; i >= 0; i--) {
            Check.due("undo", x.undo(), i);
        }
        Check.due("the first stays", x.man(0, 1), 1);
        Check.due("no more", x.undo(), -1);
        Check.due("it stays", x.man(0, 1), 1);
        EngagedTone y = Check.of(AB + "ring a b 9 1;");
        y.buy(0, 5, 1);
        y.put(0, 8);
        for (int i = 0; i < 19; i++) {
            y.put(0, 10 + i);
        }
        for (int i = 19; i >= 0; i--) {
            Check.due("undo", y.undo(), i);
        }
        Check.due("due as told", y.ring(0, 2), 9);
        Check.due("the tone stays", y.count(1), 1);
        EngagedTone z = Check.of(AB + "man c 0 99;");
        for (int i = 0; i < 30; i++) {
            z.lend(i % 3, 1 + i);
        }
        for (int i = 19; i >= 0; i--) {
            Check.due("undo", z.undo(), i);
        }
        Check.due("1, 4, 7 and 10 stay", z.man(0, 1), 99 + 22);
        Check.due("2, 5 and 8 stay", z.man(1, 1), 99 + 15);
        Check.due("3, 6 and 9 stay", z.man(2, 1), 99 + 18);
    }

    private static void noQuarterSince() {
        Check.says("if no QUARTER went by since.");
        EngagedTone x = Check.of(AB + "ring a b 3 1;");
        x.lend(0, 1);
        x.go(0);
        Check.due("none went by", x.count(14), 1);
        x.go(-1);
        x.go(100);
        Check.due("none went by", x.count(14), 1);
        x.ahead(9, 0, 0);
        Check.due("none went by", x.count(14), 1);
        x.go(1);
        Check.due("one went by", x.count(14), 0);
        Check.due("undo", x.undo(), -1);
        Check.due("purse", x.man(0, 1), 100);
        x.lend(0, 1);
        Check.due("done since", x.count(14), 1);
        Check.due("undo", x.undo(), 0);
        Check.due("purse", x.man(0, 1), 100);
    }

    private static void imageKeepsAll() {
        Check.says("An IMAGE keeps all but what was HEARD.");
        String text = AB + "man c 0 99;tone a 0 3;tone b 2 9;ring c a 0 2;ring b c 1 9;ring c b 4 1;law again 1;";
        EngagedTone x = Check.of(text, 2);
        EngagedTone y = Check.of(text, 2);
        x.buy(2, 50, 3);
        y.buy(2, 50, 3);
        x.keep();
        x.hear(1, 0, true);
        x.undo();
        x.lend(0, 5);
        x.buy(0, 9, 2);
        x.buy(1, 9, 2);
        x.put(2, 30);
        x.hang(1);
        x.go(20);
        Check.due("back", x.back(), 2);
        for (int what = 0; what <= 11; what++) {
            Check.due("count(" + what + ")", x.count(what), y.count(what));
        }
        Check.due("heard", x.count(12), 1);
        Check.due("known", x.count(13), 1);
        for (int i = 0; i < 3; i++) {
            for (int what = 0; what < 5; what++) {
                Check.due("man", x.man(i, what), y.man(i, what));
                Check.due("tone", x.tone(i, what), y.tone(i, what));
                Check.due("ring", x.ring(i, what), y.ring(i, what));
            }
            Check.due("tried", x.ring(i, 5), y.ring(i, 5));
        }
        Check.due("the same goes on", x.ahead(60, 2, 0), y.ahead(60, 2, 0));
    }

    private static void buying() {
        Check.says("A PERSON buys a TONE from a QUARTER 0 .. 9999, today's at least, on for 1 .. 16: its number");
        EngagedTone x = Check.of(AB + "tone b 1 1;");
        Check.due("from 0", x.buy(0, 0, 1), 1);
        Check.due("from 9999", x.buy(1, 9999, 16), 2);
        Check.due("whose", x.tone(2, 0), 1);
        Check.due("from", x.tone(2, 1), 9999);
        Check.due("for", x.tone(2, 2), 16);
        Check.due("to begin", x.tone(2, 3), 0);
        x.go(1);
        Check.due("it runs", x.tone(1, 3), 1);
        Check.due("for today", x.buy(0, 1, 1), 3);
        x.go(1);
        Check.due("it runs", x.tone(3, 3), 1);
        Check.due("who has no money may buy", Check.of("man a 1 0;").buy(0, 0, 16), 0);
    }

    private static void noSuchBuying() {
        Check.says("on for 1 .. 16: its number; NONE: no such ones");
        EngagedTone x = Check.of(AB, 3);
        Check.due("yesterday", x.buy(0, 2, 1), -1);
        Check.due("from -1", x.buy(0, -1, 1), -1);
        Check.due("from 10000", x.buy(0, 10000, 1), -1);
        Check.due("for 0", x.buy(0, 3, 0), -1);
        Check.due("for 17", x.buy(0, 3, 17), -1);
        Check.due("nobody", x.buy(2, 3, 1), -1);
        Check.due("nobody", x.buy(-1, 3, 1), -1);
        for (int wild : new int[] {LEAST, MOST}) {
            Check.due("nobody", x.buy(wild, 3, 1), -1);
            Check.due("never", x.buy(0, wild, 1), -1);
            Check.due("no length", x.buy(0, 3, wild), -1);
        }
        Check.due("none bought", x.count(1), 0);
        Check.due("nothing to undo", x.count(14), 0);
        Check.due("no people", new EngagedTone().buy(0, 0, 1), -1);
    }

    private static void eightTones() {
        Check.says("NONE: no such ones, there are 8.");
        EngagedTone x = Check.of(AB + "tone a 0 1;".repeat(7));
        Check.due("the eighth", x.buy(1, 0, 1), 7);
        Check.due("a ninth", x.buy(1, 0, 1), -1);
        Check.due("eight", x.count(1), 8);
        Check.due("one to undo", x.count(14), 1);
        x.undo();
        Check.due("room again", x.buy(1, 7, 2), 7);
        Check.due("it is the new one", x.tone(7, 1), 7);
        x.go(50);
        Check.due("ended ones count, too", x.buy(1, 60, 1), -1);
    }

    private static void putting() {
        Check.says("A CALL that is WAITING is put to a QUARTER from this one on, 9999 at most: true");
        EngagedTone x = Check.of(AB + "ring a b 9 1;", 3);
        Check.due("this one", x.put(0, 3), true);
        Check.due("due now", x.ring(0, 2), 3);
        Check.due("9999", x.put(0, 9999), true);
        Check.due("due then", x.ring(0, 2), 9999);
        Check.due("this one again", x.put(0, 3), true);
        x.go(1);
        Check.due("it speaks", x.ring(0, 4), 1);
        Check.due("since then", x.ring(0, 2), 3);
        EngagedTone y = Check.of(AB + "tone b 0 9;ring a b 0 1;", 2);
        Check.due("tried twice", y.ring(0, 5), 2);
        Check.due("put off", y.put(0, 9), true);
        Check.due("tried twice yet", y.ring(0, 5), 2);
        y.go(8);
        Check.due("it speaks", y.ring(0, 4), 1);
    }

    private static void noSuchPutting() {
        Check.says("false: no such ones, not WAITING, it is due then.");
        EngagedTone x = Check.of(AB + "ring a b 9 1;", 3);
        Check.due("gone by", x.put(0, 2), false);
        Check.due("below 0", x.put(0, -1), false);
        Check.due("10000", x.put(0, 10000), false);
        Check.due("due then", x.put(0, 9), false);
        Check.due("no such call", x.put(1, 9), false);
        Check.due("no such call", x.put(-1, 9), false);
        for (int wild : new int[] {LEAST, MOST}) {
            Check.due("no such call", x.put(wild, 5), false);
            Check.due("no such quarter", x.put(0, wild), false);
        }
        Check.due("due as told", x.ring(0, 2), 9);
        Check.due("nothing to undo", x.count(14), 0);
        Check.due("without calls", new EngagedTone().put(0, 1), false);
    }

    private static void notWaiting() {
        Check.says("not WAITING, it is due then.");
        EngagedTone x = Check.of(AB + "man c 0 0;ring a b 0 2;ring c b 0 1;tries 1;", 1);
        Check.due("speaking", x.put(0, 9), false);
        Check.due("given up", x.put(1, 9), false);
        x.go(3);
        Check.due("over", x.put(0, 9), false);
        Check.due("nothing to undo", x.count(14), 0);
        EngagedTone y = Check.of(AB + "tone b 0 1;ring a b 0 1;", 1);
        Check.due("due again then", y.put(0, 1), false);
        Check.due("another one", y.put(0, 2), true);
        Check.due("due there by now", y.put(0, 2), false);
    }

    private static void hanging() {
        Check.says("A CALL that is SPEAKING is hung up (OVER): how many QUARTERS it would have had yet");
        for (int many = 1; many <= 9; many++) {
            for (int gone = 1; gone <= many; gone++) {
                EngagedTone x = Check.of(AB + "ring a b 2 " + many + ";", 2 + gone);
                Check.due("of " + many + " behind " + gone, x.hang(0), many - gone);
                Check.due("over", x.ring(0, 4), 2);
                Check.due("free", x.count(10), 0);
            }
        }
        EngagedTone y = Check.of(AB + "man c 0 0;ring a b 0 9;ring c b 1 1;", 1);
        y.hang(0);
        y.go(1);
        Check.due("b is free for another one", y.ring(1, 4), 1);
    }

    private static void notSpeaking() {
        Check.says("-2: it isn't SPEAKING; NONE: no such CALL.");
        EngagedTone x = Check.of(AB + "man c 0 0;ring a b 0 2;ring c b 0 1;ring c a 9 1;tries 1;", 1);
        Check.due("given up", x.hang(1), -2);
        Check.due("waiting", x.hang(2), -2);
        x.go(2);
        Check.due("over", x.hang(0), -2);
        Check.due("no such call", x.hang(3), -1);
        Check.due("no such call", x.hang(-1), -1);
        Check.due("no such call", x.hang(MOST), -1);
        Check.due("no such call", x.hang(LEAST), -1);
        Check.due("nothing to undo", x.count(14), 0);
        EngagedTone y = Check.of(AB + "ring a b 0 2;", 1);
        Check.due("once", y.hang(0), 1);
        Check.due("not twice", y.hang(0), -2);
        Check.due("one to undo", y.count(14), 1);
    }

    private static void lending() {
        Check.says("A PERSON has so many PENCE 1 .. 99 more: PURSE");
        EngagedTone x = Check.of("man a 1 0;man b 1 999;tone a 0 2;");
        Check.due("1", x.lend(0, 1), 1);
        Check.due("99", x.lend(1, 99), 1098);
        Check.due("purse", x.man(1, 1), 1098);
        Check.due("9", x.lend(0, 9), 10);
        x.go(1);
        Check.due("it can be paid", x.tone(0, 3), 1);
    }

    private static void noSuchLending() {
        Check.says("A PERSON has so many PENCE 1 .. 99 more: PURSE; NONE: no such ones");
        EngagedTone x = Check.of(AB);
        Check.due("0", x.lend(0, 0), -1);
        Check.due("100", x.lend(0, 100), -1);
        Check.due("-1", x.lend(0, -1), -1);
        Check.due("nobody", x.lend(2, 1), -1);
        Check.due("nobody", x.lend(-1, 1), -1);
        for (int wild : new int[] {LEAST, MOST}) {
            Check.due("so many", x.lend(0, wild), -1);
            Check.due("nobody", x.lend(wild, 1), -1);
        }
        Check.due("purse", x.man(0, 1), 99);
        Check.due("nothing to undo", x.count(14), 0);
    }

    private static void fullPurse() {
        Check.says("NONE: no such ones, there would be more than 9999.");
        EngagedTone x = Check.of("man a 1 999;");
        for (int i = 0; i < 90; i++) {
            x.lend(0, 99);
        }
        Check.due("9909", x.man(0, 1), 9909);
        Check.due("91", x.lend(0, 91), -1);
        Check.due("99", x.lend(0, 99), -1);
        Check.due("89", x.lend(0, 89), 9998);
        Check.due("2", x.lend(0, 2), -1);
        Check.due("1", x.lend(0, 1), 9999);
        Check.due("1 more", x.lend(0, 1), -1);
        Check.due("purse", x.man(0, 1), 9999);
    }

    private static void undoing() {
        Check.says("The latest is undone: how many are left; NONE: none.");
        EngagedTone x = Check.of(AB);
        Check.due("none", x.undo(), -1);
        x.lend(0, 1);
        x.lend(0, 2);
        Check.due("one left", x.undo(), 1);
        Check.due("none left", x.undo(), 0);
        Check.due("none", x.undo(), -1);
        Check.due("none, again", x.undo(), -1);
        Check.due("purse", x.man(0, 1), 99);
        Check.due("a new object", new EngagedTone().undo(), -1);
        x.lend(0, 3);
        Check.due("done anew", x.undo(), 0);
    }

    private static void keeping() {
        Check.says("An IMAGE is kept (in place of one ahead): which QUARTER it is.");
        EngagedTone x = Check.of(AB + "ring a b 1 1;");
        Check.due("0", x.keep(), 0);
        x.go(2);
        x.lend(0, 1);
        Check.due("2", x.keep(), 2);
        Check.due("undo as before", x.count(14), 1);
        x.go(5);
        Check.due("the later one", x.back(), 2);
        Check.due("with what was lent", x.man(0, 1), 100);
        Check.due("of a new object", new EngagedTone().keep(), 0);
    }

    private static void goingBack() {
        Check.says("All (but what was HEARD) is as in the IMAGE (nothing to undo then): which QUARTER it is; NONE: there"
            + " is none.");
        EngagedTone x = Check.of(AB + "tone a 0 1;");
        Check.due("none", x.back(), -1);
        x.lend(0, 1);
        x.hear(0, 0, true);
        x.keep();
        x.lend(0, 2);
        x.hear(0, 0, false);
        x.known(1);
        Check.due("back", x.back(), 0);
        Check.due("purse", x.man(0, 1), 100);
        Check.due("nothing to undo", x.undo(), -1);
        Check.due("heard stays", x.count(12), 2);
        x.go(3);
        Check.due("back again", x.back(), 0);
        Check.due("to begin", x.tone(0, 3), 0);
        Check.tell(x, "$");
        Check.due("a fault leaves it", x.back(), 0);
        Check.due("the image isn't changed by what follows", x.lend(0, 7), 107);
        Check.due("back", x.back(), 0);
        Check.due("purse", x.man(0, 1), 100);
        Check.tell(x, AB);
        Check.due("a text wipes it", x.back(), -1);
    }
}
