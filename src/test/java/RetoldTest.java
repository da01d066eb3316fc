/**
 * An object keeps its rows and uses them again for the next text: whatever was told and done ahead, the answers must
 * be those of a new object that was told the last text alone.
 */
final class RetoldTest {
    private static final String[] TEXTS = {
        "",
        "man a 99 999;",
        "man a 1 1;man b 0 0;ring a b 0 1;",
        "man a 40 100;man b 90 3;man c 55 9;tone a 1 3;tone b 0 2;price 2 7;ring b a 1 2;ring c a 2 1;ring a c 3 2;"
            + "lines 2;tries 4;seed 9;",
        "man f 9 999;man e 8 999;man d 7 999;man c 6 999;man b 5 999;man a 4 999;tone f 0 9;tone e 0 9;tone d 0 9;"
            + "tone c 0 9;tone b 0 9;tone a 0 9;tone f 9 9;tone e 9 9;ring f e 0 9;ring e d 0 9;ring d c 0 9;"
            + "ring c b 0 9;ring b a 0 9;ring a f 0 9;ring f d 1 1;ring d b 1 1;ring b f 1 1;ring a c 2 2;"
            + "price 0 1;price 1 2;price 2 3;price 3 4;price 4 5;price 5 6;lines 6;tries 9;",
        "man a 9 99;man b 8 88;tone a 0 2;ring b a 0 1;law again not not not not not not not not 1;"
            + "law fame not not not not 0;law dear not not not 0;",
        "man a 9 99;man b 8 88;tone a 0 2;ring b a 0 1;law again 1+2+3+4+5+6+7+8+9+10+11+12+13+14+15+16+17+18+19+20"
            + "+21+22+23+24+25+26+27+28+29+30-461;",
        "man a 9 99;man b 8 88;tone a 0 2;ring b a 0 1;law again 7;law fame 5;law dear 3;",
        "man a 9 99;man b 8 88;tone a 0 2;ring b a 0 1;law dear 1+2*(3-4/(5+turn))<9 and vain or not purse;",
        "man b 9 99;man a 8 88;tone a 0 2;ring b a 0 1;tries 1;lines 1;law fame time+1;"};

    private static final String[] FAULTS = {
        "man z 1 1;law again not not not (1;", "tries 9;tries 9;", "man a 1 1;ring a a"};

    public static void main(String[] args) {
        for (int last = 0; last < TEXTS.length; last++) {
            long[] fresh = answers(told(TEXTS[last]));
            for (int first = 0; first < TEXTS.length; first++) {
                for (int second = 0; second < TEXTS.length; second++) {
                    compare(first + ", " + second + ", " + last, fresh, told(TEXTS[first], TEXTS[second], TEXTS[last]));
                }
                for (String fault : FAULTS) {
                    compare(first + ", a fault, " + last, fresh, told(TEXTS[first], fault, TEXTS[last]));
                    EngagedTone x = told(TEXTS[last]);
                    Check.tell(x, fault);
                    compare(last + ", then a fault", fresh, x);
                }
            }
        }
        Check.end();
    }

    private static EngagedTone told(String... texts) {
        EngagedTone x = new EngagedTone();
        for (int i = 0; i < texts.length; i++) {
            Check.tell(x, texts[i]);
            if (i < texts.length - 1) {
                live(x);
            }
        }
        return x;
    }

    /** Changes as much as a few calls can. */
    private static void live(EngagedTone x) {
        x.hear(1, 0, true);
        x.out(0);
        x.known(1);
        x.go(1);
        x.keep();
        x.hang(0);
        x.go(2);
        x.put(0, 7);
        x.lend(0, 99);
        x.buy(0, 5, 16);
        x.stop(0);
        x.tried(5, 0, 9);
        x.chance(3, 9, 1);
        x.feed(1, 2, 3, 4, 5);
        x.text(21);
        x.text(20);
        x.go(3);
        x.lend(0, 1);
    }

    private static void compare(String texts, long[] fresh, EngagedTone x) {
        long[] got = answers(x);
        for (int i = 0; i < fresh.length; i++) {
            Check.due("texts " + texts + ": the answer " + i, got[i], fresh[i]);
        }
    }

    /** All that can be asked, in a row; far fewer than 512 calls. */
    private static long[] answers(EngagedTone x) {
        long[] row = new long[263];
        int n = 0;
        for (int what = 0; what <= 14; what++) {
            row[n++] = x.count(what);
        }
        for (int i = 0; i < 10; i++) {
            for (int what = 0; what < 6; what++) {
                row[n++] = Check.ring(x, i, what);
            }
            row[n++] = x.through(i);
            row[n++] = x.when(i, 1);
            row[n++] = x.stop(i);
            row[n++] = x.price(i);
        }
        for (int i = 0; i < 8; i++) {
            for (int what = 0; what < 4; what++) {
                row[n++] = x.tone(i, what);
            }
            row[n++] = x.law(2, i);
            row[n++] = x.spans(i);
        }
        for (int man = 0; man < 6; man++) {
            for (int what = 0; what < 5; what++) {
                row[n++] = x.man(man, what);
            }
            row[n++] = x.named(man + 1 << 25);
            row[n++] = x.law(0, man);
            row[n++] = x.law(1, man);
            row[n++] = x.hard(man);
            row[n++] = x.part(man, 9, 0);
            row[n++] = x.ahead(9, 3, man);
            row[n++] = x.round(man, 0);
            row[n++] = x.rests(man, 0);
            row[n++] = x.auction((2 << man) - 1, 1);
            row[n++] = x.tried(man, 0, 12);
        }
        row[n++] = x.lines();
        row[n++] = x.shift(0);
        row[n++] = x.shift(3);
        row[n++] = x.busiest();
        row[n++] = x.chance(5, 9, 2);
        row[n++] = x.undo();
        row[n++] = x.back();
        row[n++] = x.go(4);
        row[n++] = x.count(9);
        row[n++] = x.count(11);
        return row;
    }
}
