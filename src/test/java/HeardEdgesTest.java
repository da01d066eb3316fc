/** Each sentence on HEARD, KNOWN and SPANS and of promises 29 to 32 that names an edge, in the document's order. */
final class HeardEdgesTest {
    private static final int[] WILD = {Integer.MIN_VALUE, -100, 100, 1 << 30, Integer.MAX_VALUE};
    private static final String ABC = "man a 5 99;man b 5 99;man c 5 99;law dear 0;";

    public static void main(String[] args) {
        twentyFour();
        quarters();
        nothingDoneByCall();
        behindThree();
        strikes();
        firstN();
        struck();
        spansOneToTen();
        inPlaceOfItsOwn();
        hearing();
        strikingOut();
        knowing();
        byAll();
        noSuchTone();
        Check.end();
    }

    private static void twentyFour() {
        Check.says("HEARD, at most 24, numbered from 0 on");
        EngagedTone x = Check.of(ABC);
        Check.due("none", x.count(12), 0);
        for (int i = 0; i < 24; i++) {
            Check.due("its number", i % 3 == 2 ? x.out(i - 1) : x.hear(i, i % 3, false), i);
            Check.due("heard", x.count(12), i + 1);
        }
        Check.due("a 25th", x.hear(0, 0, true), -1);
        Check.due("a 25th", x.out(0), -1);
        Check.due("24", x.count(12), 24);
        x.text(0);
        Check.due("none again", x.count(12), 0);
    }

    private static void quarters() {
        Check.says("in a QUARTER 0 .. 60");
        EngagedTone x = Check.of(ABC + "tone a 0 1;");
        Check.due("0", x.hear(0, 0, true), 0);
        Check.due("it was so", x.spans(0), 1023);
        Check.due("0, otherwise", x.hear(0, 0, false), 1);
        Check.due("it wasn't so", x.spans(0), 0);
        EngagedTone y = Check.of(ABC + "tone a 51 1;");
        Check.due("60", y.hear(60, 0, true), 0);
        Check.due("only 10 reach it", y.spans(0), 512);
        Check.due("61", y.hear(61, 0, true), -1);
        Check.due("-1", y.hear(-1, 0, true), -1);
    }

    private static void nothingDoneByCall() {
        Check.says("(from the TEXT on, nothing done by call)");
        EngagedTone x = Check.of("man a 5 5;man b 5 0;tone a 0 1;ring b a 2 1;tone b 1 1;");
        x.lend(1, 50);
        x.put(0, 0);
        x.buy(0, 3, 5);
        x.go(1);
        x.hang(0);
        x.go(9);
        x.hear(2, 1, true);
        Check.due("b gets through at 2, for the tone of a is 1 long or dead", x.spans(0), 1023);
        x.hear(1, 1, false);
        Check.due("b has no money", x.spans(0), 1023);
        x.hear(0, 0, true);
        Check.due("more than 1 can't be paid", x.spans(0), 1);
        x.hear(3, 0, false);
        Check.due("no tone was bought", x.spans(0), 1);
    }

    private static void behindThree() {
        Check.says("behind (3), a PERSON was ENGAGED, or wasn't.");
        EngagedTone x = Check.of(ABC + "tone a 9 1;ring b c 2 2;");
        x.hear(1, 1, false);
        x.hear(2, 1, true);
        x.hear(3, 2, true);
        x.hear(4, 1, false);
        Check.due("from 2 to 3", x.spans(0), 1023);
        x.hear(4, 2, true);
        Check.due("not at 4", x.spans(0), 0);
        EngagedTone y = Check.of(ABC + "tone a 2 1;");
        y.hear(1, 0, false);
        y.hear(4, 0, true);
        y.hear(5, 0, false);
        Check.due("from 2 to 4", y.spans(0), 4);
    }

    private static void strikes() {
        Check.says("One may strike one ahead of it (STRUCK).");
        EngagedTone x = Check.of(ABC + "tone a 2 1;");
        x.hear(4, 0, true);
        Check.due("not itself", x.out(1), -1);
        Check.due("three at least", x.spans(0), 1020);
        Check.due("the one ahead", x.out(0), 1);
        Check.due("struck", x.spans(0), 1023);
        Check.due("one that strikes", x.out(1), 2);
        Check.due("not itself", x.out(3), -1);
        Check.due("not a later one", x.out(4), -1);
    }

    private static void firstN() {
        Check.says("KNOWN by n (all at first): the first n that aren't STRUCK by one of these");
        EngagedTone x = Check.of(ABC + "tone a 2 1;");
        x.hear(4, 0, true);
        x.hear(6, 0, false);
        x.out(0);
        x.hear(3, 0, true);
        int[] want = {1023, 1020, 4 + 8, 1 + 2 + 4 + 8, 2 + 4 + 8};
        Check.due("all at first", x.spans(0), want[4]);
        for (int n = 0; n <= 4; n++) {
            Check.due("known(" + n + ")", x.known(n), true);
            Check.due("by " + n, x.count(13), n);
            Check.due("spans by " + n, x.spans(0), want[n]);
        }
    }

    private static void struck() {
        Check.says("(what strikes may be STRUCK: then it doesn't count; asked from the last one on)");
        EngagedTone x = Check.of(ABC + "tone a 2 1;");
        x.hear(4, 0, true);
        for (int i = 0; i < 20; i++) {
            Check.due("strikes " + i, x.spans(0), i % 2 == 0 ? 1020 : 1023);
            Check.due("out(" + i + ")", x.out(i), i + 1);
        }
        for (int n = 1; n <= 21; n++) {
            x.known(n);
            Check.due("by " + n, x.spans(0), n % 2 == 1 ? 1020 : 1023);
        }
        EngagedTone y = Check.of(ABC + "tone a 2 1;");
        y.hear(4, 0, true);
        y.out(0);
        y.out(0);
        y.out(1);
        Check.due("another one strikes yet", y.spans(0), 1023);
        y.out(2);
        Check.due("neither does", y.spans(0), 1020);
        y.out(4);
        Check.due("one does again", y.spans(0), 1023);
        y.out(4);
        Check.due("struck twice is struck", y.spans(0), 1023);
    }

    private static void spansOneToTen() {
        Check.says("SPANS of a TONE: 1 .. 10 QUARTERS (bits 0 .. 9) that it may have");
        for (int span = 1; span <= 10; span++) {
            EngagedTone x = Check.of(ABC + "tone a 3 16;");
            x.hear(2 + span, 0, true);
            x.hear(3 + span, 0, false);
            Check.due("just " + span, x.spans(0), 1 << span - 1);
        }
        EngagedTone y = Check.of(ABC + "tone a 3 16;");
        Check.due("any of them", y.spans(0), 1023);
        y.hear(13, 0, true);
        Check.due("11 at least is none of them", y.spans(0), 0);
    }

    private static void inPlaceOfItsOwn() {
        Check.says("in place of its own, by which all KNOWN ones are so.");
        EngagedTone x = Check.of("man a 5 20;man b 0 0;tone a 0 4;tone a 5 2;");
        x.hear(0, 0, true);
        Check.due("four can be paid", x.spans(0), 15);
        x.hear(5, 0, true);
        Check.due("two of 10 must be left", x.spans(0), 3);
        Check.due("the second: none is left", x.spans(1), 0);
        x.go(9);
        Check.due("whatever went by", x.spans(0), 3);
        Check.due("its own stays", x.tone(0, 2), 4);
    }

    private static void hearing() {
        Check.says("HEARD: its number; NONE: no such ones, or there are 24.");
        EngagedTone x = Check.of(ABC);
        Check.due("the last person, the last quarter", x.hear(60, 2, true), 0);
        Check.due("3", x.hear(0, 3, true), -1);
        Check.due("-1", x.hear(0, -1, false), -1);
        Check.due("61", x.hear(61, 0, true), -1);
        Check.due("-1", x.hear(-1, 0, false), -1);
        for (int wild : WILD) {
            Check.due("no such quarter", x.hear(wild, 0, true), -1);
            Check.due("no such person", x.hear(0, wild, true), -1);
        }
        Check.due("one", x.count(12), 1);
        for (int i = 1; i < 24; i++) {
            Check.due("its number", x.hear(0, 0, true), i);
        }
        Check.due("there are 24", x.hear(0, 0, true), -1);
        Check.due("there are 24", x.count(12), 24);
        Check.due("nobody", new EngagedTone().hear(0, 0, true), -1);
    }

    private static void strikingOut() {
        Check.says("One that strikes one HEARD: its number; NONE: no such one, or there are 24.");
        EngagedTone x = Check.of(ABC);
        Check.due("nothing heard", x.out(0), -1);
        Check.due("-1", x.out(-1), -1);
        x.hear(0, 0, true);
        Check.due("1", x.out(1), -1);
        Check.due("-1", x.out(-1), -1);
        for (int wild : WILD) {
            Check.due("no such one", x.out(wild), -1);
        }
        for (int i = 1; i < 24; i++) {
            Check.due("its number", x.out(i - 1), i);
        }
        Check.due("there are 24", x.out(23), -1);
        Check.due("there are 24", x.out(0), -1);
        Check.due("24", x.count(12), 24);
    }

    private static void knowing() {
        Check.says("KNOWN by n from now on (-1: by all, also those to come): true; false: no such n.");
        EngagedTone x = Check.of(ABC + "tone a 2 1;");
        Check.due("by none of none", x.known(0), true);
        Check.due("by all of none", x.known(-1), true);
        Check.due("by one of none", x.known(1), false);
        x.hear(4, 0, true);
        x.hear(5, 0, false);
        Check.due("by two", x.known(2), true);
        Check.due("by three", x.known(3), false);
        Check.due("-2", x.known(-2), false);
        for (int wild : WILD) {
            Check.due("no such n", x.known(wild), false);
        }
        Check.due("by two yet", x.count(13), 2);
        Check.due("by two yet", x.spans(0), 4);
        Check.due("by one", x.known(1), true);
        Check.due("by one", x.spans(0), 1020);
        x.known(9);
        Check.due("by one yet", x.count(13), 1);
        for (int i = 2; i < 24; i++) {
            x.hear(0, 0, false);
        }
        Check.due("by 25", x.known(25), false);
        Check.due("by 24", x.known(24), true);
        Check.due("24", x.count(13), 24);
    }

    private static void byAll() {
        Check.says("(-1: by all, also those to come)");
        EngagedTone x = Check.of(ABC + "tone a 2 1;");
        x.hear(4, 0, true);
        x.known(1);
        x.hear(5, 0, false);
        Check.due("not those to come", x.spans(0), 1020);
        x.known(-1);
        Check.due("all", x.spans(0), 4);
        Check.due("two", x.count(13), 2);
        x.hear(3, 0, false);
        Check.due("also those to come", x.spans(0), 0);
        Check.due("three", x.count(13), 3);
    }

    private static void noSuchTone() {
        Check.says("SPANS (bits); NONE: no such TONE of the TEXT.");
        EngagedTone x = Check.of(ABC + "tone a 2 1;".repeat(2));
        Check.due("the last one", x.spans(1), 1023);
        Check.due("2", x.spans(2), -1);
        Check.due("-1", x.spans(-1), -1);
        for (int wild : WILD) {
            Check.due("no such tone", x.spans(wild), -1);
        }
        x.buy(0, 5, 1);
        Check.due("bought by call", x.spans(2), -1);
        Check.due("without tones", Check.of(ABC).spans(0), -1);
        Check.due("a new object", new EngagedTone().spans(0), -1);
        EngagedTone y = Check.of(ABC + "tone a 2 1;".repeat(8));
        Check.due("the eighth", y.spans(7), 1023);
        Check.due("a ninth", y.spans(8), -1);
    }
}
