/** Each sentence on RIVALS to HARD and of promises 22 to 28 that names an edge, in the document's order. */
final class PeopleEdgesTest {
    private static final int[] WILD = {Integer.MIN_VALUE, -100, -2, 100, 1 << 30, Integer.MAX_VALUE};
    private static final String SIX = "man a 10 99;man b 20 99;man c 30 99;man d 40 99;man e 50 99;man f 60 99;";

    public static void main(String[] args) {
        alone();
        both();
        without();
        restsByOrder();
        priceOfNow();
        noSuchRivals();
        noSuchRest();
        bids();
        firstOfSeveral();
        amongNone();
        parts();
        noSuchPart();
        rounds();
        fewestRounds();
        noRound();
        busiest();
        nobodyBusy();
        hard();
        noSuchHard();
        Check.end();
    }

    /** The rests of two rivals as bits: 1 both buy, 2 the first, 4 the second, 8 neither. */
    private static int rests(int vainOne, int vainOther, int price) {
        EngagedTone x = Check.of("man a " + vainOne + " 0;man b " + vainOther + " 0;price 0 " + price + ";");
        int found = 0;
        int many = x.rests(0, 1);
        for (int k = 0; k < many; k++) {
            int rest = x.rest(0, 1, k);
            found |= 1 << (rest / 10 * 2 + rest % 10);
        }
        Check.due("no more", x.rest(0, 1, many), -2);
        return found;
    }

    private static void alone() {
        Check.says("who buys alone has VAIN, less the PRICE");
        Check.due("VAIN above PRICE: nobody rests without", rests(6, 6, 5) & 8, 0);
        Check.due("VAIN is PRICE: neither has more by buying", rests(5, 5, 5) & 8, 8);
        Check.due("VAIN below PRICE", rests(4, 4, 5) & 8, 8);
        Check.due("one of them would buy", rests(5, 6, 5) & 8, 0);
        Check.due("the other one would buy", rests(6, 5, 5) & 8, 0);
    }

    private static void both() {
        Check.says("both: each VAIN by 2, cut, less the PRICE");
        // Of 43: 21 less the PRICE against -10.
        Check.due("43 at 31", rests(43, 43, 31) & 1, 1);
        Check.due("43 at 32", rests(43, 43, 32) & 1, 0);
        Check.due("42 at 31", rests(42, 42, 31) & 1, 1);
        Check.due("41 at 31", rests(41, 43, 31) & 1, 0);
        Check.due("41 at 31", rests(43, 41, 31) & 1, 0);
        Check.due("0 at 0", rests(0, 0, 0), 15);
        Check.due("0 at 1", rests(0, 0, 1), 8);
        Check.due("1 at 0: by 2 and by 4 it is 0", rests(1, 1, 0), 7);
    }

    private static void without() {
        Check.says("who doesn't, while the other one does, loses VAIN by 4, cut; else 0.");
        // Of 40: 20 less the PRICE against -10; of 43 21 against -10; of 44 22 against -11.
        Check.due("40 at 30", rests(40, 40, 30), 1 + 2 + 4);
        Check.due("40 at 31", rests(40, 40, 31), 2 + 4);
        Check.due("44 at 33", rests(44, 44, 33), 1 + 2 + 4);
        Check.due("44 at 34", rests(44, 44, 34), 2 + 4);
        Check.due("40 at 40", rests(40, 40, 40), 2 + 4 + 8);
        Check.due("40 at 41", rests(40, 40, 41), 8);
        Check.due("3 at 1: 1 less 1 against 0", rests(3, 3, 1), 1 + 2 + 4);
        Check.due("7 at 4: 3 less 4 against -1", rests(7, 7, 4), 1 + 2 + 4);
        Check.due("7 at 5: 3 less 5 against -1", rests(7, 7, 5), 2 + 4);
        Check.due("99 at 99", rests(99, 99, 99), 2 + 4 + 8);
        Check.due("99 at 73", rests(99, 99, 73), 1 + 2 + 4);
        Check.due("99 at 74", rests(99, 99, 74), 2 + 4);
    }

    private static void restsByOrder() {
        Check.says("A REST: neither would have more otherwise. RESTS: by the first one's, then the second one's.");
        EngagedTone x = Check.of("man a 0 0;man b 0 0;man c 40 0;price 0 0;");
        int[] want = {0, 1, 10, 11};
        Check.due("four", x.rests(0, 1), 4);
        for (int k = 0; k < 4; k++) {
            Check.due("the " + k + "-th", x.rest(0, 1, k), want[k]);
        }
        EngagedTone y = Check.of("man a 0 0;man b 40 0;");
        Check.due("one", y.rests(0, 1), 1);
        Check.due("the second buys alone", y.rest(0, 1, 0), 10);
        Check.due("the first buys alone", y.rest(1, 0, 0), 1);
    }

    private static void priceOfNow() {
        Check.says("RIVALS: two PEOPLE, each buys a QUARTER of TONE now (0) or not (1)");
        EngagedTone x = Check.of("man a 40 0;man b 40 0;price 2 41;law dear 0;");
        Check.due("at 5", x.rest(0, 1, 0), 0);
        x.go(1);
        Check.due("at 5 yet", x.rest(0, 1, 0), 0);
        x.go(1);
        Check.due("at 41", x.rest(0, 1, 0), 11);
    }

    private static void noSuchRivals() {
        Check.says("How many RESTS RIVALS have; NONE: no such PEOPLE, alike.");
        EngagedTone x = Check.of(SIX);
        Check.due("the last two", x.rests(4, 5), 1);
        Check.due("alike", x.rests(0, 0), -1);
        Check.due("alike", x.rests(5, 5), -1);
        Check.due("6", x.rests(0, 6), -1);
        Check.due("6", x.rests(6, 0), -1);
        Check.due("-1", x.rests(0, -1), -1);
        Check.due("-1", x.rests(-1, 0), -1);
        for (int wild : WILD) {
            Check.due("no such one", x.rests(wild, 0), -1);
            Check.due("no such other", x.rests(0, wild), -1);
        }
        Check.due("no people", new EngagedTone().rests(0, 1), -1);
    }

    private static void noSuchRest() {
        Check.says("The k-th: ten times the first one's and the second one's; -2: there are no so many; NONE likewise, k is"
            + " below 0.");
        EngagedTone x = Check.of(SIX);
        Check.due("the first", x.rest(4, 5, 0), 0);
        Check.due("no second", x.rest(4, 5, 1), -2);
        Check.due("no 2147483648th", x.rest(4, 5, Integer.MAX_VALUE), -2);
        Check.due("below 0", x.rest(4, 5, -1), -1);
        Check.due("below 0", x.rest(4, 5, Integer.MIN_VALUE), -1);
        Check.due("alike", x.rest(0, 0, 0), -1);
        Check.due("alike, and not so many", x.rest(0, 0, 9), -1);
        Check.due("6", x.rest(0, 6, 0), -1);
        Check.due("6", x.rest(6, 0, 0), -1);
        Check.due("-1", x.rest(0, -1, 0), -1);
        Check.due("-1", x.rest(-1, 0, 0), -1);
        for (int wild : WILD) {
            Check.due("no such one", x.rest(wild, 0, 0), -1);
            Check.due("no such other", x.rest(0, wild, 0), -1);
        }
    }

    private static void bids() {
        Check.says("AUCTION of a QUARTER among PEOPLE (bits): each bids VAIN, but no more than the PURSE has");
        EngagedTone x = Check.of("man a 50 49;man b 49 50;man c 50 50;man d 50 48;man e 99 0;");
        Check.due("50 of 50", x.auction(31, 0), 2);
        Check.due("49", x.auction(31, 1), 49);
        Check.due("a and b bid 49", x.auction(3, 0), 0);
        Check.due("a pays as much", x.auction(3, 1), 49);
        Check.due("48", x.auction(10, 1), 48);
        Check.due("e bids 0", x.auction(24, 0), 3);
        Check.due("d pays 0", x.auction(24, 1), 0);
        x.lend(4, 99);
        Check.due("e has 99", x.auction(31, 0), 4);
        Check.due("e pays 50", x.auction(31, 1), 50);
    }

    private static void firstOfSeveral() {
        Check.says("who bids most, the first of several, pays the greatest bid of the others (0, if alone).");
        EngagedTone x = Check.of("man a 0 9;man b 7 9;man c 7 9;man d 7 9;man e 5 9;man f 0 0;");
        Check.due("b", x.auction(63, 0), 1);
        Check.due("as much", x.auction(63, 1), 7);
        Check.due("c", x.auction(28, 0), 2);
        Check.due("d", x.auction(56, 0), 3);
        Check.due("5", x.auction(56, 1), 5);
        Check.due("both bid 0", x.auction(33, 0), 0);
        Check.due("0", x.auction(33, 1), 0);
        for (int man = 0; man < 6; man++) {
            Check.due("alone", x.auction(1 << man, 0), man);
            Check.due("0, if alone", x.auction(1 << man, 1), 0);
        }
    }

    private static void amongNone() {
        Check.says("AUCTION, what 0: who, 1: what that one pays. -2: among none; NONE: bits of no PEOPLE, no such what.");
        EngagedTone x = Check.of("man a 1 9;man b 2 9;man c 3 9;");
        for (int what = 0; what < 2; what++) {
            Check.due("among none", x.auction(0, what), -2);
            Check.due("8", x.auction(8, what), -1);
            Check.due("15", x.auction(15, what), -1);
            Check.due("-1", x.auction(-1, what), -1);
            Check.due("most", x.auction(Integer.MAX_VALUE, what), -1);
            Check.due("least", x.auction(Integer.MIN_VALUE, what), -1);
            Check.due("1 << 30", x.auction(1 << 30, what), -1);
            Check.due("among none of none", new EngagedTone().auction(0, what), -2);
            Check.due("bits of none", new EngagedTone().auction(1, what), -1);
        }
        Check.due("all", x.auction(7, 0), 2);
        Check.due("what is 2", x.auction(7, 2), -1);
        Check.due("what is -1", x.auction(7, -1), -1);
        for (int wild : WILD) {
            Check.due("what is " + wild, x.auction(7, wild), -1);
        }
        EngagedTone y = Check.of(SIX);
        Check.due("all six", y.auction(63, 0), 5);
        Check.due("a seventh", y.auction(64, 0), -1);
        Check.due("a seventh, too", y.auction(127, 0), -1);
    }

    private static void part(EngagedTone x, int man, int n, int above, int below) {
        Check.due("part(" + man + ", " + n + ", 0)", x.part(man, n, 0), above);
        Check.due("part(" + man + ", " + n + ", 1)", x.part(man, n, 1), below);
    }

    private static void parts() {
        Check.says("PART (n 1 .. 99) in least terms, what 0: the number above, 1: the one below.");
        EngagedTone x = Check.of(SIX + "tone a 0 16;tone b 1 2;ring c d 3 1;ring d e 98 1;law dear 0;");
        part(x, 0, 1, 1, 1);
        part(x, 0, 16, 1, 1);
        part(x, 0, 17, 16, 17);
        part(x, 0, 20, 4, 5);
        part(x, 0, 96, 1, 6);
        part(x, 0, 99, 16, 99);
        part(x, 1, 1, 0, 1);
        part(x, 1, 2, 1, 2);
        part(x, 1, 3, 2, 3);
        part(x, 1, 4, 1, 2);
        part(x, 2, 3, 0, 1);
        part(x, 2, 4, 1, 4);
        part(x, 2, 5, 1, 5);
        part(x, 3, 99, 2, 99);
        part(x, 3, 98, 1, 98);
        part(x, 5, 99, 0, 1);
        Check.says("PART of a PERSON for n QUARTERS: in how many of these that one is ENGAGED behind (3), as a fraction.");
        EngagedTone y = Check.of(SIX + "ring a b 0 1;ring b a 2 1;", 1);
        Check.due("speaking now", y.man(0, 3), 1);
        part(y, 0, 1, 0, 1);
        part(y, 0, 2, 1, 2);
    }

    private static void noSuchPart() {
        Check.says("1: the one below. NONE: no such ones.");
        EngagedTone x = Check.of(SIX);
        for (int what = 0; what < 2; what++) {
            Check.due("n is 0", x.part(0, 0, what), -1);
            Check.due("n is 100", x.part(0, 100, what), -1);
            Check.due("n is -1", x.part(0, -1, what), -1);
            Check.due("6", x.part(6, 1, what), -1);
            Check.due("-1", x.part(-1, 1, what), -1);
            for (int wild : WILD) {
                Check.due("n is " + wild, x.part(0, wild, what), -1);
                Check.due("person " + wild, x.part(wild, 1, what), -1);
            }
        }
        Check.due("what is 2", x.part(0, 1, 2), -1);
        Check.due("what is -1", x.part(0, 1, -1), -1);
        for (int wild : WILD) {
            Check.due("what is " + wild, x.part(0, 1, wild), -1);
        }
        Check.due("nobody", new EngagedTone().part(0, 1, 0), -1);
    }

    private static void rounds() {
        Check.says("ROUND: how many CALLS that got THROUGH so far lead from one to another one");
        EngagedTone x = Check.of(SIX + "tone f 0 9;ring a b 0 2;ring b c 2 1;ring e f 0 1;ring d e 9 1;tries 1;law dear 0;");
        Check.due("none so far", x.round(0, 1), -2);
        x.go(1);
        Check.due("speaking", x.round(0, 1), 1);
        Check.due("given up", x.round(4, 5), -2);
        Check.due("not yet", x.round(0, 2), -2);
        x.hang(0);
        Check.due("hung up", x.round(0, 1), 1);
        x.go(2);
        Check.due("two", x.round(0, 2), 2);
        x.go(1);
        Check.due("over", x.round(0, 2), 2);
        Check.due("waiting", x.round(3, 4), -2);
    }

    private static void fewestRounds() {
        Check.says("(either way, one behind another, fewest).");
        EngagedTone x = Check.of(SIX + "ring b a 0 1;ring b c 1 1;ring d c 2 1;ring d e 3 1;ring f e 4 1;ring f a 5 1;", 5);
        Check.due("five", x.round(0, 5), 5);
        Check.due("five back", x.round(5, 0), 5);
        Check.due("four", x.round(0, 4), 4);
        x.go(1);
        Check.due("one", x.round(0, 5), 1);
        Check.due("two", x.round(0, 4), 2);
        Check.due("three", x.round(0, 3), 3);
        Check.due("three back", x.round(3, 0), 3);
    }

    private static void noRound() {
        Check.says("ROUND (0 to oneself); -2: none lead there; NONE: no such PEOPLE.");
        EngagedTone x = Check.of(SIX);
        for (int man = 0; man < 6; man++) {
            Check.due("to oneself", x.round(man, man), 0);
        }
        Check.due("none", x.round(0, 5), -2);
        Check.due("6", x.round(0, 6), -1);
        Check.due("6", x.round(6, 0), -1);
        Check.due("6 to 6", x.round(6, 6), -1);
        Check.due("-1", x.round(0, -1), -1);
        Check.due("-1 to -1", x.round(-1, -1), -1);
        for (int wild : WILD) {
            Check.due("no such one", x.round(wild, 0), -1);
            Check.due("no such other", x.round(0, wild), -1);
            Check.due("no such ones", x.round(wild, wild), -1);
        }
        Check.due("nobody", new EngagedTone().round(0, 0), -1);
    }

    private static void busiest() {
        Check.says("BUSIEST: who has most FAME, the first of several.");
        EngagedTone x = Check.of(SIX + "tone f 0 1;tone c 1 1;tone b 2 2;tone d 4 1;law fame 5;law dear 0;", 1);
        Check.due("f", x.busiest(), 5);
        x.go(1);
        Check.due("c has as much", x.busiest(), 2);
        x.go(1);
        Check.due("b has as much", x.busiest(), 1);
        x.go(1);
        Check.due("b has more", x.busiest(), 1);
        x.go(1);
        Check.due("d has less", x.busiest(), 1);
    }

    private static void nobodyBusy() {
        Check.says("BUSIEST; -2: nobody has FAME.");
        Check.due("nobody at all", new EngagedTone().busiest(), -2);
        EngagedTone x = Check.of(SIX + "tone a 0 5;law fame (time=2);law dear 0;");
        Check.due("nobody", x.busiest(), -2);
        x.go(2);
        Check.due("fame of 0", x.busiest(), -2);
        x.go(1);
        Check.due("fame of 1", x.busiest(), 0);
    }

    private static void hard() {
        Check.says("HARD of a PERSON: CALLS (bits) to that one that were TRIED and not THROUGH.");
        EngagedTone x = Check.of(SIX + "tone b 0 2;" + "ring a b 9 1;".repeat(7) + "ring b a 0 9;ring a b 1 1;ring c b 1 1;"
            + "tries 1;law dear 0;");
        Check.due("none", x.hard(1), 0);
        x.go(1);
        Check.due("not yet", x.hard(1), 0);
        Check.due("b got through to a", x.hard(0), 0);
        x.go(1);
        Check.due("the ninth, whose one is in a call, and the tenth", x.hard(1), 256 + 512);
        Check.due("it isn't to c", x.hard(2), 0);
        EngagedTone y = Check.of(SIX + "tone b 0 1;ring a b 0 1;ring c b 0 1;", 1);
        Check.due("waiting, tried", y.hard(1), 3);
        y.go(1);
        Check.due("the first got through", y.hard(1), 2);
        y.go(1);
        Check.due("both are", y.hard(1), 0);
    }

    private static void noSuchHard() {
        Check.says("HARD (bits); NONE: no such PERSON.");
        EngagedTone x = Check.of(SIX);
        Check.due("5", x.hard(5), 0);
        Check.due("6", x.hard(6), -1);
        Check.due("-1", x.hard(-1), -1);
        for (int wild : WILD) {
            Check.due("no such person", x.hard(wild), -1);
        }
        Check.due("nobody", new EngagedTone().hard(0), -1);
    }
}
