/** What the tests share: a text is fed and told, and answers are held against those that are due. */
final class Check {
    private static int wrong = 0;
    private static int made = 0;

    private Check() {
    }

    /** Feeds a text, filled up with blanks, and tells it: what text() answers. */
    static int tell(EngagedTone x, String text) {
        feed(x, text);
        return x.text(text.length());
    }

    /** Feeds a text, filled up with blanks to twenties. */
    static void feed(EngagedTone x, String text) {
        for (int at = 0; at < text.length(); at += 20) {
            x.feed(four(text, at), four(text, at + 4), four(text, at + 8), four(text, at + 12), four(text, at + 16));
        }
    }

    private static int four(String text, int at) {
        int number = 0;
        for (int i = at; i < at + 4; i++) {
            number = number << 8 | (i < text.length() ? text.charAt(i) & 255 : ' ');
        }
        return number;
    }

    /** A new object of which this text, without a fault, is told. */
    static EngagedTone of(String text) {
        EngagedTone x = new EngagedTone();
        if (tell(x, text) < 0) {
            wrong++;
            System.out.println("fault " + x.fault(0) + " at " + x.fault(1) + " in: " + text);
        }
        return x;
    }

    static void due(String call, long got, long want) {
        made++;
        if (got != want) {
            wrong++;
            System.out.println(call + " answered " + got + ", due is " + want);
        }
    }

    static void due(String call, boolean got, boolean want) {
        due(call, got ? 1 : 0, want ? 1 : 0);
    }

    static void fault(String text, int kind, int place) {
        EngagedTone x = new EngagedTone();
        due("text of '" + text + "'", tell(x, text), -1);
        due("fault(0) of '" + text + "'", x.fault(0), kind);
        due("fault(1) of '" + text + "'", x.fault(1), place);
    }

    static void fine(String text, int lines) {
        EngagedTone x = new EngagedTone();
        due("text of '" + text + "'", tell(x, text), lines);
        due("fault(0) of '" + text + "'", x.fault(0), 0);
        due("fault(1) of '" + text + "'", x.fault(1), -1);
    }

    static void end() {
        System.out.println(made + " answers looked at, " + wrong + " not as due");
        if (wrong != 0) {
            System.exit(1);
        }
    }
}
