/** Each sentence on NAMES and VALUES, and each of promise 10, that names an edge, in the document's order. */
final class LawEdgesTest {
    private static final long ERROR = Long.MIN_VALUE;
    private static final String TRILLION = "1000*1000*1000*1000";

    public static void main(String[] args) {
        turn();
        whose();
        busy();
        cost();
        time();
        bindings();
        truths();
        bothSides();
        cut();
        byNothing();
        tooLarge();
        wrapped();
        lawsNow();
        noSuchOnes();
        Check.end();
    }

    private static void turn() {
        Check.says("NAMES: turn: how often the CALL was TRIED (this one, too; of fame, dear 0)");
        EngagedTone x = Check.of("man a 1 99;man b 1 99;tone b 0 16;ring a b 0 1;tries 9;"
            + "law again turn;law fame 5+turn;law dear 3+turn;");
        for (int due : new int[] {1, 3, 6}) {
            x.go(due - x.count(4));
            Check.due("due again at", x.ring(0, 2), due);
        }
        Check.due("turn of dear is 0", x.count(9), 3);
        Check.due("turn of fame is 0", x.man(1, 2), 30);
    }

    private static void whose() {
        Check.says("vain, purse, known: VAIN, PURSE, FAME of the one who calls (of the PERSON, of whose TONE it is)");
        String people = "man a 11 201;man b 12 202;man c 13 203;tone c 1 1;tone b 0 1;ring a b 5 1;";
        for (int what = 0; what < 3; what++) {
            String rule = new String[] {"again", "fame", "dear"}[what];
            int man = new int[] {0, 1, 2}[what];
            int which = new int[] {0, 1, 0}[what];
            EngagedTone x = Check.of(people + "law " + rule + " vain*1000+purse;");
            Check.due("vain and purse of " + rule, x.law(what, which), (11 + man) * 1000 + 201 + man);
        }
        EngagedTone y = Check.of("man a 11 99;man b 22 99;tone a 0 1;tone b 0 2;tone b 9 1;ring b a 9 1;"
            + "law again known;law dear known;", 2);
        Check.due("fame of a", y.man(0, 2), 2);
        Check.due("fame of b", y.man(1, 2), 6);
        Check.due("of the one who calls", y.law(0, 0), 6);
        Check.due("of whose tone it is", y.law(2, 0), 2);
        Check.due("of whose tone it is", y.law(2, 2), 6);
        EngagedTone z = Check.of("man a 11 99;tone a 0 9;law fame known+1;", 3);
        Check.due("1, 3, 7", z.man(0, 2), 7);
    }

    private static void busy() {
        Check.says("busy: how many PEOPLE are ENGAGED now (of dear the TONE not yet)");
        EngagedTone x = Check.of("man a 1 99;man b 1 99;man c 1 99;man d 1 99;tone a 0 2;tone b 0 2;tone a 1 1;"
            + "law dear busy*10+1;");
        Check.due("nobody", x.law(2, 0), 1);
        x.go(1);
        Check.due("a pays 1", x.man(0, 1), 98);
        Check.due("b pays 11, for a is engaged by now", x.man(1, 1), 88);
        x.go(1);
        Check.due("a pays 21, for one's own other tone counts", x.man(0, 1), 77);
        x.go(1);
        Check.due("nobody again", x.law(2, 0), 1);
        EngagedTone y = Check.of("man a 1 99;man b 1 99;man c 1 99;man d 1 99;ring a b 0 3;ring c a 0 1;"
            + "law again busy;tries 9;", 1);
        Check.due("both of a call", y.law(0, 1), 2);
        Check.due("due again in 2", y.ring(1, 2), 2);
    }

    private static void cost() {
        Check.says("cost: PRICE of this QUARTER");
        EngagedTone x = Check.of("man a 1 99;tone a 4 3;price 2 0;price 3 99;law dear cost;");
        Check.due("at 0", x.law(2, 0), 5);
        x.go(2);
        Check.due("at 2", x.law(2, 0), 0);
        x.go(1);
        Check.due("at 3", x.law(2, 0), 99);
        x.go(2);
        Check.due("one price, however long", x.count(9), 99);
    }

    private static void time() {
        Check.says("time: the QUARTER.");
        EngagedTone x = Check.of("man a 1 99;tone a 7 3;law dear time;law fame time;");
        Check.due("at 0", x.law(1, 0), 0);
        x.go(8);
        Check.due("at 8", x.law(1, 0), 8);
        Check.due("paid at 7", x.count(9), 7);
        Check.due("fame at 7", x.man(0, 2), 7);
    }

    private static void worth(String expression, long want) {
        Check.due(expression, Check.of("man a 35 60;law fame " + expression + ";").law(1, 0), want);
    }

    private static void bindings() {
        Check.says("E: A { or A }. A: B { and B }. B: not B | C. C: S [ ( < | <= | = | <> | >= | > ) S ]. S: T { ( + | - ) T"
            + " }. T: P { ( * | / ) P }.");
        worth("1 or 0 and 0", 1);
        worth("0 and 0 or 1", 1);
        worth("(1 or 0) and 0", 0);
        worth("not 0 and 0", 0);
        worth("not (0 and 0)", 1);
        worth("not 1 or 1", 1);
        worth("not (1 or 1)", 0);
        worth("not 2=1", 1);
        worth("not 0+1", 0);
        worth("(not 0)+1", 2);
        worth("2<1+1", 0);
        worth("(2<1)+1", 1);
        worth("3 and 2=2", 1);
        worth("0 or 2=3", 0);
        worth("2=2 and 3=3", 1);
        worth("1+2*3", 7);
        worth("2*3+1", 7);
        worth("2*(3+1)", 8);
        worth("10-3-2", 5);
        worth("10-(3-2)", 9);
        worth("10-3+2", 9);
        worth("16/4/2", 2);
        worth("16/(4/2)", 8);
        worth("16/4*2", 8);
        worth("5*7/2", 17);
        worth("7/2*5", 15);
    }

    private static void truths() {
        Check.says("comparisons, and, or, not are 1 or 0 (what isn't 0 is as 1,");
        worth("7 and 9", 1);
        worth("7 and 0", 0);
        worth("0 and 9", 0);
        worth("(0-7) and (0-9)", 1);
        worth("2 and 1", 1);
        worth("7 or 0", 1);
        worth("0 or (0-9)", 1);
        worth("0 or 0", 0);
        worth("not 7", 0);
        worth("not (0-7)", 0);
        worth("not 0", 1);
        worth("(5<6)+(5<5)*10+(6<5)*100", 1);
        worth("(5<=6)+(5<=5)*10+(6<=5)*100", 11);
        worth("(5=6)+(5=5)*10+(6=5)*100", 10);
        worth("(5<>6)+(5<>5)*10+(6<>5)*100", 101);
        worth("(5>=6)+(5>=5)*10+(6>=5)*100", 110);
        worth("(5>6)+(5>5)*10+(6>5)*100", 100);
        worth(TRILLION + ">0-" + TRILLION, 1);
    }

    private static void bothSides() {
        Check.says("both sides are worked out)");
        worth("1 or 1/0", ERROR);
        worth("1/0 or 1", ERROR);
        worth("0 and 1/0", ERROR);
        worth("1/0 and 0", ERROR);
        worth("0*(1/0)", ERROR);
        worth("not (1/0)", ERROR);
        worth("(1/0)<1", ERROR);
    }

    private static void cut() {
        Check.says("/ is cut towards 0");
        worth("7/2", 3);
        worth("(0-7)/2", -3);
        worth("7/(0-2)", -3);
        worth("(0-7)/(0-2)", 3);
        worth("1/2", 0);
        worth("(0-1)/2", 0);
        worth("0/5", 0);
        worth("9999/9999", 1);
        worth("9998/9999", 0);
        worth("100/10/5", 2);
        worth("100/10*5", 50);
    }

    private static void byNothing() {
        Check.says("ERROR: / by 0");
        worth("1/0", ERROR);
        worth("0/0", ERROR);
        worth("1/(5-5)", ERROR);
        worth("1/(1/2)", ERROR);
        worth("1/(not 1)", ERROR);
        worth("1/(0-1)", -1);
    }

    private static void tooLarge() {
        Check.says("a value above 10 to the 12 or below 0 by more than that.");
        worth(TRILLION, 1000000000000L);
        worth(TRILLION + "+0", 1000000000000L);
        worth(TRILLION + "+1", ERROR);
        worth(TRILLION + "+1-1", ERROR);
        worth(TRILLION + "-1+1", 1000000000000L);
        worth("1+" + TRILLION, ERROR);
        worth("0-" + TRILLION, -1000000000000L);
        worth("0-" + TRILLION + "-1", ERROR);
        worth("0-" + TRILLION + "-1+1", ERROR);
        worth("(0-1000*1000)*(1000*1000)", -1000000000000L);
        worth("(1000*1000)*(0-1000*1000)", -1000000000000L);
        worth("(0-1000*1000)*(0-1000*1000)", 1000000000000L);
        worth("(1000*1000)*(1000*1000+1)", ERROR);
        worth("(1000*1000+1)*(0-1000*1000)", ERROR);
        worth("(0-1000*1000)*(0-1000*1000-1)", ERROR);
        worth("(" + TRILLION + ")*1", 1000000000000L);
        worth("1*(" + TRILLION + ")", 1000000000000L);
        worth("(" + TRILLION + ")*2", ERROR);
        worth("2*(" + TRILLION + ")", ERROR);
        worth("(" + TRILLION + ")*0", 0);
        worth("0*(" + TRILLION + ")", 0);
        worth("9999*9999*9999", 999700029999L);
        worth("9999*9999*9999*2", ERROR);
        worth("0*(" + TRILLION + "+1)", ERROR);
        worth("(" + TRILLION + ")/(" + TRILLION + ")", 1);
        worth("3*(333*1001*1000*1000+334*1000)", ERROR);
    }

    private static void wrapped() {
        Check.says("VALUES are longs");
        worth("(4096*4096*256)*(4096*4096*256)", ERROR);
        worth("(4096*4096*256)*(4096*4096*128)", ERROR);
        worth("(" + TRILLION + ")*(" + TRILLION + ")", ERROR);
        worth("(0-" + TRILLION + ")*(" + TRILLION + ")", ERROR);
        worth("4096*4096*256", 4294967296L);
        worth("4096*4096*256-4294*1000*1000", 967296);
    }

    private static void lawsNow() {
        Check.says("The law's E now (what 0 again of a CALL, as if it were TRIED now once more; 1 fame of a PERSON;"
            + " 2 dear of a TONE).");
        EngagedTone x = Check.of("man a 1 99;man b 1 99;tone b 0 1;ring a b 0 1;ring a b 0 1;tries 2;"
            + "law again turn+5000;law fame 1000-2000;law dear 5000;");
        Check.due("more than 9, as it is", x.law(0, 0), 5001);
        Check.due("below 0, as it is", x.law(1, 0), -1000);
        Check.due("more than 999, as it is", x.law(2, 0), 5000);
        EngagedTone y = Check.of("man a 1 99;man b 1 99;tone b 0 1;ring a b 0 1;law fame turn+7;law dear turn+8;", 1);
        Check.due("turn of fame is 0", y.law(1, 0), 7);
        Check.due("turn of dear is 0", y.law(2, 0), 8);
        x.go(1);
        Check.due("speaking: once more", x.law(0, 0), 5002);
        Check.due("tried once, once more", x.law(0, 1), 5002);
        x.go(9);
        Check.due("over: once more", x.law(0, 0), 5002);
        Check.due("tried twice, once more", x.law(0, 1), 5003);
        Check.due("nothing was tried by asking", x.ring(0, 5), 1);
        Check.due("a dead tone's", x.law(2, 0), 5000);
        Check.due("a person's without a tone", x.law(1, 0), -1000);
    }

    private static void noSuchOnes() {
        Check.says("Long.MIN_VALUE: an ERROR, no such law, no such ones.");
        String people = "man a 1 99;man b 1 99;tone b 0 1;ring a b 0 1;";
        EngagedTone x = Check.of(people + "law again 1/0;law fame 1/0;law dear 1/0;");
        EngagedTone y = Check.of(people);
        for (int what = 0; what < 3; what++) {
            Check.due("an error of " + what, x.law(what, 0), ERROR);
            Check.due("no such law " + what, y.law(what, 0), ERROR);
        }
        EngagedTone z = Check.of(people + "law again 1;law fame 1;law dear 1;");
        int[] most = {0, 1, 0};
        for (int what = 0; what < 3; what++) {
            Check.due("the last one", z.law(what, most[what]), 1);
            for (int which : new int[] {most[what] + 1, -1, 99, Integer.MAX_VALUE, Integer.MIN_VALUE}) {
                Check.due("law(" + what + ", " + which + ")", z.law(what, which), ERROR);
            }
        }
        for (int what : new int[] {3, -1, 99, Integer.MAX_VALUE, Integer.MIN_VALUE}) {
            Check.due("law(" + what + ", 0)", z.law(what, 0), ERROR);
        }
        Check.due("one law alone", Check.of(people + "law dear 1;").law(1, 0), ERROR);
        Check.due("one law alone", Check.of(people + "law dear 1;").law(2, 0), 1);
        z.buy(0, 9, 1);
        Check.due("of a tone bought by call", z.law(2, 1), 1);
    }
}
