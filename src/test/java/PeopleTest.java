/** Promises 22 to 28: rests, rest, auction, part, round, busiest, hard. */
final class PeopleTest {
    public static void main(String[] args) {
        rivals();
        wrongRivals();
        auctions();
        parts();
        rounds();
        busiest();
        hard();
        Check.end();
    }

    private static void rests(int vainOne, int vainOther, int price, int... want) {
        EngagedTone x = Check.of("man a " + vainOne + " 0;man b " + vainOther + " 0;price 0 " + price + ";");
        String who = vainOne + " and " + vainOther + " at " + price;
        Check.due("rests of " + who, x.rests(0, 1), want.length);
        for (int k = 0; k < want.length; k++) {
            Check.due("rest " + k + " of " + who, x.rest(0, 1, k), want[k]);
        }
        Check.due("no more of " + who, x.rest(0, 1, want.length), -2);
    }

    private static void rivals() {
        rests(40, 20, 5, 0);
        rests(0, 0, 5, 11);
        rests(0, 0, 0, 0, 1, 10, 11);
        rests(40, 0, 5, 1);
        rests(0, 40, 5, 10);
        // Both: 20 - 30 = -10 and not: -10, alone: 10.
        rests(40, 40, 30, 0, 1, 10);
        rests(40, 40, 31, 1, 10);
        rests(40, 40, 40, 1, 10, 11);
        rests(40, 40, 41, 11);
        // Cut: 43 by 2 is 21, by 4 is 10.
        rests(43, 43, 31, 0, 1, 10);
        rests(43, 43, 32, 1, 10);
        EngagedTone x = Check.of("man a 40 0;man b 40 0;price 3 41;");
        Check.due("price of now", x.rest(0, 1, 0), 0);
        x.go(3);
        Check.due("price of then", x.rest(0, 1, 0), 11);
        EngagedTone y = Check.of("man a 40 0;man b 0 0;");
        Check.due("the other way", y.rest(1, 0, 0), 10);
    }

    private static void wrongRivals() {
        EngagedTone x = Check.of("man a 40 0;man b 40 0;");
        Check.due("rests(0, 0)", x.rests(0, 0), -1);
        Check.due("rests(0, 2)", x.rests(0, 2), -1);
        Check.due("rests(-1, 0)", x.rests(-1, 0), -1);
        Check.due("rest(1, 1, 0)", x.rest(1, 1, 0), -1);
        Check.due("rest(2, 1, 0)", x.rest(2, 1, 0), -1);
        Check.due("rest(0, 1, -1)", x.rest(0, 1, -1), -1);
        Check.due("rest(0, 1, 4)", x.rest(0, 1, 4), -2);
    }

    private static void auctions() {
        EngagedTone x = Check.of("man a 40 10;man b 20 99;man c 20 99;man d 5 3;");
        Check.due("a bids its purse", x.auction(15, 0), 1);
        Check.due("b pays as much as c", x.auction(15, 1), 20);
        Check.due("a and b", x.auction(3, 0), 1);
        Check.due("a and b pay", x.auction(3, 1), 10);
        Check.due("a and d", x.auction(9, 0), 0);
        Check.due("a and d pay", x.auction(9, 1), 3);
        Check.due("d alone", x.auction(8, 0), 3);
        Check.due("d alone pays", x.auction(8, 1), 0);
        Check.due("among none", x.auction(0, 0), -2);
        Check.due("among none", x.auction(0, 1), -2);
        Check.due("bits of none", x.auction(16, 0), -1);
        Check.due("bits of none", x.auction(17, 0), -1);
        Check.due("bits of none", x.auction(-1, 0), -1);
        Check.due("no such what", x.auction(1, 2), -1);
        Check.due("no such what", x.auction(1, -1), -1);
        x.lend(0, 20);
        Check.due("a has more", x.auction(15, 0), 0);
        Check.due("a bids 30", x.auction(15, 1), 20);
    }

    private static void parts() {
        EngagedTone x = Check.of("man a 1 99;man b 1 0;man c 1 0;tone a 1 3;ring b c 2 2;");
        Check.due("a of 4", x.part(0, 4, 0), 3);
        Check.due("a of 4", x.part(0, 4, 1), 4);
        Check.due("a of 6", x.part(0, 6, 0), 1);
        Check.due("a of 6", x.part(0, 6, 1), 2);
        Check.due("a of 1", x.part(0, 1, 0), 0);
        Check.due("a of 1", x.part(0, 1, 1), 1);
        Check.due("none of 2", x.part(1, 2, 0), 0);
        Check.due("none of 2", x.part(1, 2, 1), 1);
        Check.due("b of 99", x.part(1, 99, 0), 2);
        Check.due("b of 99", x.part(1, 99, 1), 99);
        Check.due("c of 4", x.part(2, 4, 0), 1);
        Check.due("c of 4", x.part(2, 4, 1), 2);
        x.go(1);
        Check.due("all of 3", x.part(0, 3, 0), 1);
        Check.due("all of 3", x.part(0, 3, 1), 1);
        Check.due("part(3, 1, 0)", x.part(3, 1, 0), -1);
        Check.due("part(-1, 1, 0)", x.part(-1, 1, 0), -1);
        Check.due("part(0, 0, 0)", x.part(0, 0, 0), -1);
        Check.due("part(0, 100, 0)", x.part(0, 100, 0), -1);
        Check.due("part(0, 1, 2)", x.part(0, 1, 2), -1);
        Check.due("part(0, 1, -1)", x.part(0, 1, -1), -1);
    }

    private static void rounds() {
        EngagedTone x = Check.of("man a 1 0;man b 1 0;man c 1 0;man d 1 0;man e 1 0;man f 1 0;"
            + "ring a b 0 1;ring c b 1 1;ring c d 2 1;ring e d 3 1;ring a e 4 1;ring f a 5 1;");
        Check.due("to oneself", x.round(0, 0), 0);
        Check.due("nothing yet", x.round(0, 1), -2);
        x.go(1);
        Check.due("speaking", x.round(1, 0), 1);
        x.go(3);
        Check.due("a to e", x.round(0, 4), 4);
        Check.due("e to a", x.round(4, 0), 4);
        Check.due("a to d", x.round(0, 3), 3);
        x.go(1);
        Check.due("shorter", x.round(0, 4), 1);
        Check.due("shorter", x.round(0, 3), 2);
        Check.due("not f", x.round(0, 5), -2);
        x.go(1);
        Check.due("f", x.round(5, 2), 3);
        Check.due("round(6, 0)", x.round(6, 0), -1);
        Check.due("round(0, -1)", x.round(0, -1), -1);
        Check.due("round(6, 6)", x.round(6, 6), -1);
        EngagedTone y = Check.of("man a 1 0;man b 1 0;man c 1 0;man d 1 0;man e 1 0;man f 1 0;"
            + "ring a b 0 1;ring b c 1 1;ring c d 2 1;ring d e 3 1;ring e f 4 1;");
        y.go(5);
        Check.due("the longest way", y.round(0, 5), 5);
        EngagedTone z = Check.of("man a 1 99;man b 1 0;tone a 0 9;ring b a 0 1;tries 1;");
        z.go(2);
        Check.due("given up leads nowhere", z.round(0, 1), -2);
    }

    private static void busiest() {
        EngagedTone x = Check.of("man a 5 99;man b 15 99;man c 5 99;tone a 1 2;tone b 2 1;tone c 1 2;");
        x.go(1);
        Check.due("nobody", x.busiest(), -2);
        x.go(1);
        Check.due("the first of two", x.busiest(), 0);
        x.go(1);
        Check.due("the first of three", x.busiest(), 0);
        EngagedTone y = Check.of("man a 5 99;man b 15 99;tone a 0 1;tone b 0 1;");
        y.go(1);
        Check.due("the second", y.busiest(), 1);
    }

    private static void hard() {
        EngagedTone x = Check.of("man a 5 99;man b 15 99;tone a 0 2;ring b a 0 1;ring b a 1 1;ring a b 1 1;"
            + "ring b a 9 1;tries 2;");
        Check.due("none tried", x.hard(0), 0);
        x.go(1);
        Check.due("waiting", x.hard(0), 1);
        x.go(1);
        Check.due("given up, and waiting", x.hard(0), 3);
        Check.due("a got through to b", x.hard(1), 0);
        x.go(2);
        Check.due("the second got through", x.hard(0), 1);
        Check.due("hard(2)", x.hard(2), -1);
        Check.due("hard(-1)", x.hard(-1), -1);
    }
}
