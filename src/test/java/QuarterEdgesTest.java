/** Each sentence on the QUARTER (==== 2) that names an edge, in the document's order. */
final class QuarterEdgesTest {
    private static final String AB = "man a 50 99;man b 20 99;";
    private static final String SIX = AB + "man c 0 0;man d 0 0;man e 0 0;man f 0 0;";

    public static void main(String[] args) {
        states();
        engaged();
        callsEnd();
        tonesEnd();
        tonesByNumbers();
        costs();
        costsWithout();
        purses();
        dead();
        dueNow();
        callers();
        callees();
        lines();
        tries();
        again();
        fame();
        fameWithout();
        fameOfWhom();
        fameAtMost();
        nextQuarter();
        Check.end();
    }

    private static void states() {
        Check.says("A CALL is WAITING (0), SPEAKING (1), OVER (2), GIVEN UP (3).");
        EngagedTone x = Check.of(AB + "ring a b 0 1;tries 1;");
        Check.due("waiting", x.ring(0, 4), 0);
        x.go(1);
        Check.due("speaking", x.ring(0, 4), 1);
        x.go(1);
        Check.due("over", x.ring(0, 4), 2);
        EngagedTone y = Check.of(AB + "tone b 0 1;ring a b 0 1;tries 1;", 1);
        Check.due("given up", y.ring(0, 4), 3);
    }

    private static void engaged() {
        Check.says("A PERSON is ENGAGED, if in a CALL that is SPEAKING (either one), or a TONE of that one runs.");
        EngagedTone x = Check.of(SIX + "tone e 0 1;tone a 1 1;ring a b 0 1;ring c d 0 1;ring f e 0 1;law dear 0;");
        Check.due("none at first", x.count(10), 0);
        x.go(1);
        for (int man = 0; man < 5; man++) {
            Check.due("engaged " + man, x.man(man, 3), 1);
        }
        Check.due("who waits isn't", x.man(5, 3), 0);
        Check.due("five", x.count(10), 5);
        x.go(1);
        Check.due("a: the call is over, but a tone runs", x.man(0, 3), 1);
        Check.due("b: the call is over", x.man(1, 3), 0);
        Check.due("e: the tone ended, but f got through", x.man(4, 4), 2);
        Check.due("a, e, f", x.count(10), 3);
    }

    private static void callsEnd() {
        Check.says("A QUARTER: (1) by numbers each CALL that is SPEAKING for LONG QUARTERS is OVER.");
        for (int many = 1; many <= 9; many++) {
            EngagedTone x = Check.of(AB + "man c 0 0;ring a b 3 " + many + ";ring c b " + (3 + many) + " 1;", 3 + many);
            Check.due("speaking for " + many, x.ring(0, 4), 1);
            x.go(1);
            Check.due("over behind " + many, x.ring(0, 4), 2);
            Check.due("b is free for the next one at once", x.ring(1, 4), 1);
        }
    }

    private static void tonesEnd() {
        Check.says("(2) TONES whose last QUARTER went by end");
        for (int many = 1; many <= 16; many += 5) {
            EngagedTone x = Check.of(AB + "law dear 0;tone b 2 " + many + ";ring a b " + (2 + many) + " 1;", 2 + many);
            Check.due("it runs for " + many, x.tone(0, 3), 1);
            x.go(1);
            Check.due("it ended behind " + many, x.tone(0, 3), 2);
            Check.due("b is free at once", x.ring(0, 4), 1);
        }
    }

    private static void tonesByNumbers() {
        Check.says("by numbers each TONE that begins in this QUARTER and isn't DEAD");
        EngagedTone x = Check.of("man a 50 10;tone a 3 1;tone a 2 2;tone a 2 1;price 2 5;", 2);
        Check.due("to begin", x.tone(0, 3), 0);
        Check.due("not yet", x.tone(1, 3), 0);
        x.go(1);
        Check.due("the first of two is paid", x.tone(1, 3), 1);
        Check.due("then the purse is empty", x.tone(2, 3), 3);
        Check.due("purse", x.man(0, 1), 0);
        Check.due("later", x.tone(0, 3), 0);
        x.go(1);
        Check.due("no money for it", x.tone(0, 3), 3);
        x.lend(0, 99);
        x.go(3);
        Check.due("a dead one never begins", x.tone(0, 3), 3);
        Check.due("nor is it paid", x.count(9), 10);
    }

    private static int paidBy(String law) {
        return Check.of("man a 50 999;tone a 0 2;" + law, 1).count(9);
    }

    private static void costs() {
        Check.says("it costs E of dear (0 .. 999;");
        Check.due("0", paidBy("law dear 0;"), 0);
        Check.due("1", paidBy("law dear 1;"), 1);
        Check.due("998", paidBy("law dear 998;"), 998);
        Check.due("999", paidBy("law dear 999;"), 999);
        Check.due("1000", paidBy("law dear 1000;"), 999);
        Check.due("10 to the 12", paidBy("law dear 1000*1000*1000*1000;"), 999);
        Check.due("2 to the 32 and 7", paidBy("law dear 4096*4096*256+7;"), 999);
        Check.due("below 0", paidBy("law dear 0-1;"), 0);
        Check.due("below 0 by 10 to the 12", paidBy("law dear 0-1000*1000*1000*1000;"), 0);
        Check.due("below 0 by 2 to the 32 less 7", paidBy("law dear 7-4096*4096*256;"), 0);
    }

    private static void costsWithout() {
        Check.says("PRICE of this QUARTER times how many QUARTERS it has, 999 at most, too, without, with an ERROR)");
        Check.due("without a law", paidBy(""), 10);
        Check.due("with an error", paidBy("law dear 1/0;"), 10);
        Check.due("above 10 to the 12", paidBy("law dear 1000*1000*1000*1000+1;"), 10);
        Check.due("PRICE of this quarter", Check.of("man a 1 99;tone a 2 3;price 1 4;price 2 7;price 3 9;", 3).count(9), 21);
        for (String law : new String[] {"", "law dear 1/0;"}) {
            String text = "man a 50 999;tone a 0 16;" + law;
            Check.due("16 at 62", Check.of(text + "price 0 62;", 1).count(9), 992);
            Check.due("16 at 63", Check.of(text + "price 0 63;", 1).count(9), 999);
            Check.due("16 at 99", Check.of(text + "price 0 99;", 1).count(9), 999);
            Check.due("16 at 0", Check.of(text + "price 0 0;", 1).count(9), 0);
        }
    }

    private static void purses() {
        Check.says("if the PURSE has so much, it is PAID and the TONE runs; else it is DEAD.");
        EngagedTone x = Check.of("man a 50 10;tone a 0 2;", 1);
        Check.due("just so much: it runs", x.tone(0, 3), 1);
        Check.due("purse", x.man(0, 1), 0);
        Check.due("paid", x.count(9), 10);
        EngagedTone y = Check.of("man a 50 9;tone a 0 2;", 1);
        Check.due("one less: it is dead", y.tone(0, 3), 3);
        Check.due("purse", y.man(0, 1), 9);
        Check.due("paid", y.count(9), 0);
        Check.due("not engaged", y.man(0, 3), 0);
        EngagedTone z = Check.of("man a 50 0;tone a 0 2;law dear 0;", 1);
        Check.due("0 of 0: it runs", z.tone(0, 3), 1);
    }

    private static void dead() {
        Check.says("and isn't DEAD: it costs E of dear");
        EngagedTone x = Check.of("man a 50 9;man b 0 0;tone a 0 2;ring b a 0 1;", 1);
        Check.due("a dead tone turns no call away", x.ring(0, 4), 1);
        Check.due("nor brings it fame", x.man(0, 2), 0);
        x.lend(0, 99);
        x.go(1);
        Check.due("it stays dead", x.tone(0, 3), 3);
    }

    private static void dueNow() {
        Check.says("(3) by numbers each CALL that is WAITING and due now is TRIED:");
        EngagedTone x = Check.of(SIX + "ring c a 2 1;ring b a 1 1;ring a b 1 1;ring d a 1 1;", 1);
        Check.due("none is due at 0", x.count(11), 0);
        x.go(1);
        int[] tried = {0, 1, 1, 1};
        int[] state = {0, 1, 0, 0};
        for (int ring = 0; ring < 4; ring++) {
            Check.due("tried " + ring, x.ring(ring, 5), tried[ring]);
            Check.due("the first of three due at 1 gets through", x.ring(ring, 4), state[ring]);
        }
        x.go(1);
        Check.due("the first of all due at 2 gets through", x.ring(0, 4), 1);
        Check.due("one that is over isn't tried", x.ring(1, 5), 1);
        Check.due("one that is due again is", x.ring(3, 5), 2);
        x.go(1);
        Check.due("one that got through isn't tried", x.ring(0, 5), 1);
    }

    private static void callers() {
        Check.says("it is SPEAKING, if the one who calls is in no CALL");
        EngagedTone x = Check.of(AB + "man c 0 0;tone a 0 1;ring a b 0 2;ring a c 1 1;tries 9;", 2);
        Check.due("one's own tone doesn't matter", x.ring(0, 4), 1);
        Check.due("who calls is in a call", x.ring(1, 4), 0);
        x.go(1);
        Check.due("and is free when it is over", x.ring(1, 4), 1);
        EngagedTone y = Check.of(AB + "man c 0 0;ring a b 0 2;ring b c 1 1;tries 1;", 2);
        Check.due("who calls is called", y.ring(1, 4), 3);
        EngagedTone z = Check.of(AB + "man c 0 0;ring a b 0 1;ring a c 0 1;tries 1;", 1);
        Check.due("by numbers the first gets through", z.ring(0, 4), 1);
        Check.due("the second doesn't", z.ring(1, 4), 3);
    }

    private static void callees() {
        Check.says("the other one isn't ENGAGED");
        String text = AB + "man c 0 0;tries 1;";
        Check.due("in a call as caller", Check.of(text + "ring a b 0 2;ring c a 1 1;", 2).ring(1, 4), 3);
        Check.due("in a call as called", Check.of(text + "ring a b 0 2;ring c b 1 1;", 2).ring(1, 4), 3);
        Check.due("a tone runs", Check.of(text + "tone b 1 1;ring c b 1 1;", 2).ring(0, 4), 3);
        Check.due("a tone is to begin", Check.of(text + "tone b 2 1;ring c b 1 1;", 2).ring(0, 4), 1);
        Check.due("a tone ended", Check.of(text + "tone b 0 1;ring c b 1 1;", 2).ring(0, 4), 1);
    }

    private static void lines() {
        Check.says("and fewer CALLS than there are lines are SPEAKING");
        String three = SIX + "ring a b 0 2;ring c d 0 1;ring e f 1 1;tries 1;";
        EngagedTone x = Check.of(three + "lines 1;", 2);
        Check.due("the first", x.ring(0, 4), 1);
        Check.due("no line", x.ring(1, 4), 3);
        Check.due("no line", x.ring(2, 4), 3);
        EngagedTone y = Check.of(three + "lines 2;", 2);
        Check.due("the second line", y.ring(1, 4), 2);
        Check.due("the second line is free again", y.ring(2, 4), 1);
    }

    private static void tries() {
        Check.says("else, if it was TRIED tries times now, it is GIVEN UP");
        for (int tries = 1; tries <= 9; tries++) {
            EngagedTone x = Check.of(AB + "tone b 0 16;ring a b 0 1;tries " + tries + ";law dear 0;", tries - 1);
            Check.due("waiting after " + (tries - 1), x.ring(0, 4), 0);
            x.go(1);
            Check.due("given up after " + tries, x.ring(0, 4), 3);
            Check.due("tried", x.ring(0, 5), tries);
            Check.due("due as it was", x.ring(0, 2), tries - 1);
            x.go(9);
            Check.due("never again", x.ring(0, 5), tries);
        }
        EngagedTone y = Check.of(AB + "tone b 0 2;ring a b 0 1;tries 3;", 3);
        Check.due("the last try may get through", y.ring(0, 4), 1);
    }

    private static int againBy(String law) {
        EngagedTone x = Check.of(AB + "tone b 2 16;ring a b 2 1;" + law, 3);
        return x.ring(0, 2) - 2;
    }

    private static void again() {
        Check.says("else it is due again in E of again QUARTERS (1 .. 9; 1 without, with an ERROR).");
        Check.due("1", againBy("law again 1;"), 1);
        Check.due("2", againBy("law again 2;"), 2);
        Check.due("8", againBy("law again 8;"), 8);
        Check.due("9", againBy("law again 9;"), 9);
        Check.due("10", againBy("law again 10;"), 9);
        Check.due("10 to the 12", againBy("law again 1000*1000*1000*1000;"), 9);
        Check.due("2 to the 32 and 3", againBy("law again 4096*4096*256+3;"), 9);
        Check.due("0", againBy("law again 0;"), 1);
        Check.due("below 0", againBy("law again 0-1;"), 1);
        Check.due("below 0 by 2 to the 32 less 3", againBy("law again 3-4096*4096*256;"), 1);
        Check.due("without", againBy(""), 1);
        Check.due("by 0", againBy("law again 9+1/(turn-1);"), 1);
        Check.due("above 10 to the 12", againBy("law again 1000*1000*1000*1001;"), 1);
    }

    private static int fameBy(int vain, String law) {
        return Check.of("man a " + vain + " 99;tone a 0 1;" + law, 1).man(0, 2);
    }

    private static void fame() {
        Check.says("has FAME more by E of fame (0 .. 99;");
        Check.due("0", fameBy(50, "law fame 0;"), 0);
        Check.due("1", fameBy(50, "law fame 1;"), 1);
        Check.due("98", fameBy(50, "law fame 98;"), 98);
        Check.due("99", fameBy(50, "law fame 99;"), 99);
        Check.due("100", fameBy(50, "law fame 100;"), 99);
        Check.due("10 to the 12", fameBy(50, "law fame 1000*1000*1000*1000;"), 99);
        Check.due("2 to the 32 and 5", fameBy(50, "law fame 4096*4096*256+5;"), 99);
        Check.due("below 0", fameBy(50, "law fame 0-1;"), 0);
        Check.due("below 0 by 2 to the 32 less 5", fameBy(50, "law fame 5-4096*4096*256;"), 0);
    }

    private static void fameWithout() {
        Check.says("VAIN by 10, cut, and 1 without, with an ERROR)");
        for (String law : new String[] {"", "law fame 1/0;", "law fame 1000*1000*1000*1000+1;"}) {
            Check.due("0", fameBy(0, law), 1);
            Check.due("9", fameBy(9, law), 1);
            Check.due("10", fameBy(10, law), 2);
            Check.due("89", fameBy(89, law), 9);
            Check.due("90", fameBy(90, law), 10);
            Check.due("99", fameBy(99, law), 10);
        }
    }

    private static void fameOfWhom() {
        Check.says("(4) by numbers each PERSON of whom a TONE runs and who is in no CALL");
        EngagedTone x = Check.of(AB + "man c 0 0;tone a 0 2;tone a 0 1;tone b 2 1;ring a c 1 1;law fame 7;", 1);
        Check.due("two tones bring no more than one", x.man(0, 2), 7);
        Check.due("no tone", x.man(1, 2), 0);
        x.go(1);
        Check.due("in a call", x.man(0, 2), 7);
        x.go(1);
        Check.due("the tone ended", x.man(0, 2), 7);
        Check.due("b now", x.man(1, 2), 7);
        EngagedTone y = Check.of(AB + "man c 0 0;tone a 0 2;ring c b 0 1;ring a b 1 1;law fame busy*10+turn;", 1);
        Check.due("three are engaged, turn is 0", y.man(0, 2), 30);
    }

    private static void fameAtMost() {
        Check.says("9999 at most.");
        EngagedTone x = Check.of("man a 0 0;law fame 98;law dear 0;");
        for (int i = 0; i < 7; i++) {
            x.buy(0, 16 * i, 16);
        }
        x.go(99);
        x.go(3);
        Check.due("102 times 98", x.man(0, 2), 9996);
        x.go(1);
        Check.due("three more", x.man(0, 2), 9999);
        x.go(1);
        Check.due("no more", x.man(0, 2), 9999);
        Check.due("no more ahead", x.ahead(5, 3, 0), 9999);
    }

    private static void nextQuarter() {
        Check.says("Then it is the next QUARTER.");
        EngagedTone x = Check.of(AB);
        Check.due("0", x.count(4), 0);
        x.go(1);
        Check.due("1", x.count(4), 1);
        x.go(99);
        Check.due("100", x.count(4), 100);
    }
}
