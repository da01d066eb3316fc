import java.util.ArrayList;
import java.util.Arrays;
import java.util.List;
import java.util.NoSuchElementException;
import java.util.function.Consumer;

/**
 * A second reading of the document, slow and plain, that ModelTest holds against EngagedTone. It shares no
 * code with it: the text is parsed by recursion into trees, each state is copied whole, nothing ends early.
 */
final class Model {
    static final int NONE = -1;

    /** A fault of a text. */
    static final class Fault extends RuntimeException {
        private static final long serialVersionUID = 1L;
        final int kind;
        final int place;

        Fault(int kind, int place) {
            this.kind = kind;
            this.place = place;
        }
    }

    /** An ERROR of a law. */
    static final class Error extends RuntimeException {
        private static final long serialVersionUID = 1L;
    }

    record Token(String word, int place) {
    }

    record Tree(String sign, Tree left, Tree right) {
    }

    static final class Person implements Cloneable {
        String name;
        int vain;
        int purse;
        int fame;

        Person twin() {
            Person p = new Person();
            p.name = name;
            p.vain = vain;
            p.purse = purse;
            p.fame = fame;
            return p;
        }
    }

    static final class Tone {
        int man;
        int from;
        int many;
        int state;

        Tone(int man, int from, int many, int state) {
            this.man = man;
            this.from = from;
            this.many = many;
            this.state = state;
        }
    }

    static final class Ring {
        int from;
        int to;
        int due;
        int many;
        int state;
        int tried;

        Ring(int from, int to, int due, int many, int state, int tried) {
            this.from = from;
            this.to = to;
            this.due = due;
            this.many = many;
            this.state = state;
            this.tried = tried;
        }
    }

    static final class State {
        List<Person> people = new ArrayList<>();
        List<Tone> tones = new ArrayList<>();
        List<Ring> rings = new ArrayList<>();
        List<int[]> prices = new ArrayList<>();
        Tree[] laws = new Tree[3];
        int knots;
        int lines = 3;
        int tries = 3;
        int quarter;
        int paid;
        boolean free;
        int silent = -1;
        long[] draw;

        State twin() {
            State s = new State();
            for (Person p : people) {
                s.people.add(p.twin());
            }
            for (Tone t : tones) {
                s.tones.add(new Tone(t.man, t.from, t.many, t.state));
            }
            for (Ring r : rings) {
                s.rings.add(new Ring(r.from, r.to, r.due, r.many, r.state, r.tried));
            }
            s.prices = prices;
            s.laws = laws;
            s.knots = knots;
            s.lines = lines;
            s.tries = tries;
            s.quarter = quarter;
            s.paid = paid;
            return s;
        }

        int price(int q) {
            int best = 5;
            for (int from = 0; from <= Math.min(q, 99); from++) {
                for (int[] p : prices) {
                    if (p[0] == from) {
                        best = p[1];
                    }
                }
            }
            return best;
        }

        int callOf(int man) {
            for (int i = 0; i < rings.size(); i++) {
                Ring r = rings.get(i);
                if (r.state == 1 && (r.from == man || r.to == man)) {
                    return i;
                }
            }
            return NONE;
        }

        boolean hasTone(int man) {
            return tones.stream().anyMatch(t -> t.man == man && t.state == 1);
        }

        boolean engaged(int man) {
            return callOf(man) != NONE || hasTone(man);
        }

        int engagedCount() {
            int n = 0;
            for (int i = 0; i < people.size(); i++) {
                n += engaged(i) ? 1 : 0;
            }
            return n;
        }

        int with(int state) {
            return (int) rings.stream().filter(r -> r.state == state).count();
        }

        long value(int law, int man, int turn) {
            if (laws[law] == null) {
                throw new Error();
            }
            return value(laws[law], man, turn);
        }

        long value(Tree t, int man, int turn) {
            if (t.left == null) {
                Person p = people.get(man);
                switch (t.sign) {
                    case "turn": return turn;
                    case "vain": return p.vain;
                    case "purse": return p.purse;
                    case "busy": return engagedCount();
                    case "known": return p.fame;
                    case "cost": return free ? 0 : price(quarter);
                    case "time": return quarter;
                    default: return Long.parseLong(t.sign);
                }
            }
            long a = value(t.left, man, turn);
            long b = t.right == null ? 0 : value(t.right, man, turn);
            java.math.BigInteger x = java.math.BigInteger.valueOf(a);
            java.math.BigInteger y = java.math.BigInteger.valueOf(b);
            switch (t.sign) {
                case "or": return a != 0 || b != 0 ? 1 : 0;
                case "and": return a != 0 && b != 0 ? 1 : 0;
                case "not": return a == 0 ? 1 : 0;
                case "<": return a < b ? 1 : 0;
                case "<=": return a <= b ? 1 : 0;
                case "=": return a == b ? 1 : 0;
                case "<>": return a != b ? 1 : 0;
                case ">=": return a >= b ? 1 : 0;
                case ">": return a > b ? 1 : 0;
                case "+": x = x.add(y); break;
                case "-": x = x.subtract(y); break;
                case "*": x = x.multiply(y); break;
                default:
                    if (b == 0) {
                        throw new Error();
                    }
                    x = x.divide(y);
                    break;
            }
            if (x.abs().compareTo(java.math.BigInteger.TEN.pow(12)) > 0) {
                throw new Error();
            }
            return x.longValueExact();
        }

        int lawOr(int law, int man, int turn, int least, int most, int otherwise) {
            try {
                return (int) Math.max(least, Math.min(most, value(law, man, turn)));
            } catch (Error e) {
                return otherwise;
            }
        }

        void quarter() {
            for (Ring r : rings) {
                if (r.state == 1 && quarter - r.due == r.many) {
                    r.state = 2;
                }
            }
            for (Tone t : tones) {
                if (t.state == 1 && quarter - t.from == t.many) {
                    t.state = 2;
                }
            }
            for (Tone t : tones) {
                if (t.state == 0 && t.from == quarter) {
                    int cost = lawOr(2, t.man, 0, 0, 999, Math.min(999, price(quarter) * t.many));
                    if (free) {
                        cost = 0;
                    }
                    Person p = people.get(t.man);
                    if (p.purse >= cost) {
                        p.purse -= cost;
                        paid += cost;
                        t.state = 1;
                    } else {
                        t.state = 3;
                    }
                }
            }
            for (Ring r : rings) {
                if (r.state == 0 && r.due == quarter && r.from != silent) {
                    r.tried++;
                    if (callOf(r.from) == NONE && !engaged(r.to) && with(1) < lines) {
                        r.state = 1;
                        if (draw != null) {
                            draw[0] = (draw[0] * 1103515245L + 12345L) % (1L << 31);
                            r.many = (int) (draw[0] / 65536 % 9 + 1);
                        }
                    } else if (r.tried >= tries) {
                        r.state = 3;
                    } else {
                        r.due = quarter + lawOr(0, r.from, r.tried, 1, 9, 1);
                    }
                }
            }
            for (int i = 0; i < people.size(); i++) {
                if (hasTone(i) && callOf(i) == NONE) {
                    Person p = people.get(i);
                    p.fame = Math.min(9999, p.fame + lawOr(1, i, 0, 0, 99, p.vain / 10 + 1));
                }
            }
            quarter++;
        }

        State after(int n) {
            for (int i = 0; i < n; i++) {
                quarter();
            }
            return this;
        }

        int throughs() {
            return with(1) + with(2);
        }
    }

    /** Reads a text by recursion. */
    static final class Parser {
        private static final List<String> LANGUAGE = Arrays.asList(("man tone price ring lines tries seed law again "
            + "fame dear or and not turn vain purse busy known cost time").split(" "));
        private final String text;
        private int at;
        private int open;
        private final State s = new State();
        private final List<String> told = new ArrayList<>();
        int lineCount;

        Parser(String text) {
            this.text = text;
        }

        private Token peek() {
            int i = at;
            while (i < text.length() && " \n".indexOf(text.charAt(i)) >= 0) {
                i++;
            }
            if (i == text.length()) {
                return new Token("", i);
            }
            int j = i + 1;
            String kind = text.substring(i, j);
            String in = kind.matches("[a-z]") ? "[a-z]" : kind.matches("[0-9]") ? "[0-9]" : null;
            if (in != null) {
                while (j < text.length() && text.substring(j, j + 1).matches(in)) {
                    j++;
                }
            } else if (j < text.length() && List.of("<=", "<>", ">=").contains(text.substring(i, j + 1))) {
                j++;
            }
            return new Token(text.substring(i, j), i);
        }

        private Token take() {
            Token t = peek();
            at = t.place + t.word.length();
            return t;
        }

        private boolean next(String... words) {
            return Arrays.asList(words).contains(peek().word);
        }

        private void need(boolean ok, int kind, Token t) {
            if (!ok) {
                throw new Fault(kind, t.place);
            }
        }

        State read() {
            while (!peek().word.isEmpty()) {
                line();
                Token t = take();
                need(t.word.equals(";"), 1, t);
                lineCount++;
            }
            return s;
        }

        private void line() {
            Token t = take();
            switch (t.word) {
                case "man": {
                    need(s.people.size() < 6, 2, t);
                    Token w = word();
                    need(index(w) == NONE, 3, w);
                    Person p = new Person();
                    p.name = w.word;
                    p.vain = number(0, 99);
                    p.purse = number(0, 999);
                    s.people.add(p);
                    break;
                }
                case "tone":
                    need(s.tones.size() < 8, 2, t);
                    s.tones.add(new Tone(person(), number(0, 99), number(1, 16), 0));
                    break;
                case "price":
                    need(s.prices.size() < 6, 2, t);
                    s.prices.add(new int[] {number(0, 99), number(0, 99)});
                    break;
                case "ring": {
                    need(s.rings.size() < 10, 2, t);
                    int from = person();
                    Token second = peek();
                    int to = person();
                    need(from != to, 5, second);
                    s.rings.add(new Ring(from, to, number(0, 99), number(1, 9), 0, 0));
                    break;
                }
                case "lines":
                    once(t);
                    s.lines = number(1, 6);
                    break;
                case "tries":
                    once(t);
                    s.tries = number(1, 9);
                    break;
                case "seed":
                    once(t);
                    number(0, 99999);
                    break;
                case "law": {
                    Token rule = take();
                    int law = List.of("again", "fame", "dear").indexOf(rule.word);
                    need(law >= 0, 1, rule);
                    once(rule);
                    s.laws[law] = either();
                    break;
                }
                default:
                    throw new Fault(1, t.place);
            }
        }

        private void once(Token t) {
            need(!told.contains(t.word), 3, t);
            told.add(t.word);
        }

        private Token word() {
            Token t = take();
            need(t.word.matches("[a-z]{1,6}") && !LANGUAGE.contains(t.word), 1, t);
            return t;
        }

        private int index(Token w) {
            for (int i = 0; i < s.people.size(); i++) {
                if (s.people.get(i).name.equals(w.word)) {
                    return i;
                }
            }
            return NONE;
        }

        private int person() {
            Token w = word();
            need(index(w) != NONE, 4, w);
            return index(w);
        }

        private int number(int least, int most) {
            Token t = take();
            need(t.word.matches("[0-9]+"), 1, t);
            java.math.BigInteger n = new java.math.BigInteger(t.word);
            need(n.compareTo(java.math.BigInteger.valueOf(least)) >= 0
                && n.compareTo(java.math.BigInteger.valueOf(most)) <= 0, 2, t);
            return n.intValueExact();
        }

        private Token knot() {
            Token t = take();
            s.knots++;
            need(s.knots <= 64, 2, t);
            return t;
        }

        private Tree either() {
            Tree t = both();
            while (next("or")) {
                String sign = knot().word;
                t = new Tree(sign, t, both());
            }
            return t;
        }

        private Tree both() {
            Tree t = denied();
            while (next("and")) {
                String sign = knot().word;
                t = new Tree(sign, t, denied());
            }
            return t;
        }

        private Tree denied() {
            if (next("not")) {
                knot();
                return new Tree("not", denied(), null);
            }
            Tree t = sum();
            if (next("<", "<=", "=", "<>", ">=", ">")) {
                String sign = knot().word;
                t = new Tree(sign, t, sum());
            }
            return t;
        }

        private Tree sum() {
            Tree t = product();
            while (next("+", "-")) {
                String sign = knot().word;
                t = new Tree(sign, t, product());
            }
            return t;
        }

        private Tree product() {
            Tree t = atom();
            while (next("*", "/")) {
                String sign = knot().word;
                t = new Tree(sign, t, atom());
            }
            return t;
        }

        private Tree atom() {
            Token t = peek();
            if (t.word.equals("(")) {
                take();
                open++;
                need(open <= 8, 2, t);
                Tree inner = either();
                Token close = take();
                need(close.word.equals(")"), 1, close);
                open--;
                return inner;
            }
            if (List.of("turn", "vain", "purse", "busy", "known", "cost", "time").contains(t.word)) {
                return new Tree(knot().word, null, null);
            }
            int n = number(0, 9999);
            s.knots++;
            need(s.knots <= 64, 2, t);
            return new Tree(Integer.toString(n), null, null);
        }
    }

    private final StringBuilder tape = new StringBuilder();
    private State text = new State();
    private State now = new State();
    private State image;
    private int faultKind;
    private int faultPlace = NONE;
    private final List<int[]> heard = new ArrayList<>();
    private int known = -1;
    private final List<State> past = new ArrayList<>();

    int feed(int a, int b, int c, int d, int e) {
        if (tape.length() > 680) {
            return NONE;
        }
        for (int n : new int[] {a, b, c, d, e}) {
            for (int shift = 24; shift >= 0; shift -= 8) {
                tape.append((char) (n >> shift & 255));
            }
        }
        return tape.length();
    }

    int text(int n) {
        if (n < 0 || n > tape.length()) {
            return -2;
        }
        Parser p = new Parser(tape.substring(0, n));
        tape.setLength(0);
        try {
            text = p.read();
        } catch (Fault f) {
            faultKind = f.kind;
            faultPlace = f.place;
            return NONE;
        }
        faultKind = 0;
        faultPlace = NONE;
        now = text.twin();
        image = null;
        heard.clear();
        known = -1;
        past.clear();
        return p.lineCount;
    }

    int fault(int what) {
        return what == 0 ? faultKind : what == 1 ? faultPlace : NONE;
    }

    int named(int letters) {
        for (int i = 0; i < now.people.size(); i++) {
            String name = (now.people.get(i).name + "`````").substring(0, 6);
            int packed = 0;
            for (char c : name.toCharArray()) {
                packed = packed * 32 + c - '`';
            }
            if (packed == letters) {
                return i;
            }
        }
        return NONE;
    }

    private boolean isMan(int man) {
        return man >= 0 && man < now.people.size();
    }

    private boolean isRing(int ring) {
        return ring >= 0 && ring < now.rings.size();
    }

    private boolean isTone(int tone) {
        return tone >= 0 && tone < now.tones.size();
    }

    int ring(int ring, int what) {
        if (!isRing(ring)) {
            throw new IndexOutOfBoundsException();
        }
        if (what < 0 || what > 5) {
            throw new NoSuchElementException();
        }
        Ring r = now.rings.get(ring);
        return new int[] {r.from, r.to, r.due, r.many, r.state, r.tried}[what];
    }

    int man(int man, int what) {
        if (!isMan(man) || what < 0 || what > 4) {
            return NONE;
        }
        Person p = now.people.get(man);
        return new int[] {p.vain, p.purse, p.fame, now.engaged(man) ? 1 : 0, now.callOf(man)}[what];
    }

    int tone(int tone, int what) {
        if (!isTone(tone) || what < 0 || what > 3) {
            return NONE;
        }
        Tone t = now.tones.get(tone);
        return new int[] {t.man, t.from, t.many, t.state}[what];
    }

    int price(int q) {
        return q < 0 || q > 9999 ? NONE : now.price(q);
    }

    long law(int what, int which) {
        try {
            if (what == 0 && isRing(which)) {
                return now.value(0, now.rings.get(which).from, now.rings.get(which).tried + 1);
            }
            if (what == 1 && isMan(which)) {
                return now.value(1, which, 0);
            }
            if (what == 2 && isTone(which)) {
                return now.value(2, now.tones.get(which).man, 0);
            }
        } catch (Error e) {
            return Long.MIN_VALUE;
        }
        return Long.MIN_VALUE;
    }

    private void remember() {
        past.add(now.twin());
        if (past.size() > 20) {
            past.remove(0);
        }
    }

    int buy(int man, int from, int many) {
        if (!isMan(man) || from < now.quarter || from > 9999 || many < 1 || many > 16 || now.tones.size() == 8) {
            return NONE;
        }
        remember();
        now.tones.add(new Tone(man, from, many, 0));
        return now.tones.size() - 1;
    }

    boolean put(int ring, int quarter) {
        if (!isRing(ring) || now.rings.get(ring).state != 0 || quarter < now.quarter || quarter > 9999
            || now.rings.get(ring).due == quarter) {
            return false;
        }
        remember();
        now.rings.get(ring).due = quarter;
        return true;
    }

    int hang(int ring) {
        if (!isRing(ring)) {
            return NONE;
        }
        Ring r = now.rings.get(ring);
        if (r.state != 1) {
            return -2;
        }
        remember();
        now.rings.get(ring).state = 2;
        return r.due + r.many - now.quarter;
    }

    int lend(int man, int pence) {
        if (!isMan(man) || pence < 1 || pence > 99 || now.people.get(man).purse + pence > 9999) {
            return NONE;
        }
        remember();
        return now.people.get(man).purse += pence;
    }

    int go(int n) {
        if (n < 0 || n > 99 || now.quarter + n > 9900) {
            return NONE;
        }
        if (n > 0) {
            past.clear();
        }
        now.after(n);
        return now.quarter;
    }

    int ahead(int n, int what, int man) {
        if (n < 0 || n > 99 || what < 0 || what > 3 || what == 3 && !isMan(man)) {
            return NONE;
        }
        State s = now.twin().after(n);
        switch (what) {
            case 0: return s.throughs() - now.throughs();
            case 1: return s.with(3) - now.with(3);
            case 2: return s.paid - now.paid;
            default: return s.people.get(man).fame;
        }
    }

    private static int untilThrough(State s, int ring) {
        if (s.rings.get(ring).state == 1 || s.rings.get(ring).state == 2) {
            return 0;
        }
        for (int i = 1; i <= 99; i++) {
            s.quarter();
            if (s.rings.get(ring).state == 1) {
                return i;
            }
        }
        return -2;
    }

    int through(int ring) {
        return isRing(ring) ? untilThrough(now.twin(), ring) : NONE;
    }

    int when(int ring, int what) {
        if (!isRing(ring) || what < 0 || what > 1) {
            return NONE;
        }
        if (now.rings.get(ring).state != 0) {
            return -2;
        }
        int best = -2;
        int soonest = 100;
        for (int d = 0; d < 20; d++) {
            State s = now.twin();
            s.rings.get(ring).due = s.quarter + d;
            s.rings.get(ring).tried = 0;
            for (int i = 1; i <= 99; i++) {
                s.quarter();
                if (s.rings.get(ring).state == 2 && i < soonest) {
                    best = d;
                    soonest = i;
                }
            }
        }
        return best < 0 ? -2 : what == 0 ? best : soonest;
    }

    private int givenUp(int n, Consumer<State> change) {
        State s = now.twin();
        change.accept(s);
        return s.after(n).with(3) - now.with(3);
    }

    int lines() {
        for (int lines = 1; lines <= 6; lines++) {
            int l = lines;
            if (givenUp(99, s -> s.lines = l) == 0) {
                return lines;
            }
        }
        return -2;
    }

    int stop(int ring) {
        if (!isRing(ring)) {
            return NONE;
        }
        if (now.rings.get(ring).state != 0) {
            return -2;
        }
        int best = -2;
        int fewest = 9;
        for (int set = 0; set < 1 << now.tones.size(); set++) {
            State s = now.twin();
            boolean ok = true;
            for (int t = 0; t < now.tones.size(); t++) {
                if ((set >> t & 1) == 1) {
                    Tone tone = s.tones.get(t);
                    ok &= tone.state < 2 && tone.man != s.rings.get(ring).from;
                    tone.state = 3;
                }
            }
            if (ok && Integer.bitCount(set) < fewest && untilThrough(s, ring) > 0) {
                best = set;
                fewest = Integer.bitCount(set);
            }
        }
        return best;
    }

    int shift(int what) {
        if (what < 0 || what > 3) {
            return NONE;
        }
        List<Integer> free = new ArrayList<>();
        for (int i = 0; i < now.tones.size() && free.size() < 3; i++) {
            if (now.tones.get(i).state == 0) {
                free.add(i);
            }
        }
        int[] best = null;
        for (int a = 0; a < 4; a++) {
            for (int b = 0; b < 4; b++) {
                for (int c = 0; c < 4; c++) {
                    int[] d = {a, b, c, 0};
                    boolean ok = true;
                    for (int k = free.size(); k < 3; k++) {
                        ok &= d[k] == 0;
                    }
                    if (!ok) {
                        continue;
                    }
                    d[3] = givenUp(99, s -> {
                        for (int k = 0; k < free.size(); k++) {
                            s.tones.get(free.get(k)).from += d[k];
                        }
                    });
                    if (best == null || d[3] < best[3]) {
                        best = d;
                    }
                }
            }
        }
        return what < 3 && what >= free.size() ? -2 : best[what];
    }

    private List<Integer> allRests(int one, int other) {
        int[][] one2 = gains(now.people.get(one).vain);
        int[][] other2 = gains(now.people.get(other).vain);
        List<Integer> rests = new ArrayList<>();
        for (int a = 0; a < 2; a++) {
            for (int b = 0; b < 2; b++) {
                if (one2[a][b] >= one2[1 - a][b] && other2[b][a] >= other2[1 - b][a]) {
                    rests.add(10 * a + b);
                }
            }
        }
        return rests;
    }

    private int[][] gains(int vain) {
        int price = now.price(now.quarter);
        return new int[][] {{vain / 2 - price, vain - price}, {-(vain / 4), 0}};
    }

    int rests(int one, int other) {
        return !isMan(one) || !isMan(other) || one == other ? NONE : allRests(one, other).size();
    }

    int rest(int one, int other, int k) {
        if (!isMan(one) || !isMan(other) || one == other || k < 0) {
            return NONE;
        }
        List<Integer> rests = allRests(one, other);
        return k < rests.size() ? rests.get(k) : -2;
    }

    int auction(int people, int what) {
        if (people < 0 || people >> now.people.size() != 0 || what < 0 || what > 1) {
            return NONE;
        }
        int who = -2;
        int most = -1;
        int second = 0;
        for (int i = 0; i < now.people.size(); i++) {
            if ((people >> i & 1) == 1) {
                int bid = Math.min(now.people.get(i).vain, now.people.get(i).purse);
                if (bid > most) {
                    second = Math.max(0, most);
                    most = bid;
                    who = i;
                } else {
                    second = Math.max(second, bid);
                }
            }
        }
        return who == -2 || what == 0 ? who : second;
    }

    int part(int man, int n, int what) {
        if (!isMan(man) || n < 1 || n > 99 || what < 0 || what > 1) {
            return NONE;
        }
        State s = now.twin();
        int engaged = 0;
        for (int i = 0; i < n; i++) {
            s.quarter();
            engaged += s.engaged(man) ? 1 : 0;
        }
        int by = java.math.BigInteger.valueOf(n).gcd(java.math.BigInteger.valueOf(engaged)).intValue();
        return (what == 0 ? engaged : n) / by;
    }

    int round(int one, int other) {
        if (!isMan(one) || !isMan(other)) {
            return NONE;
        }
        int[] far = new int[now.people.size()];
        Arrays.fill(far, 99);
        far[one] = 0;
        for (int i = 0; i < 10; i++) {
            for (Ring r : now.rings) {
                if (r.state == 1 || r.state == 2) {
                    far[r.to] = Math.min(far[r.to], far[r.from] + 1);
                    far[r.from] = Math.min(far[r.from], far[r.to] + 1);
                }
            }
        }
        return far[other] >= 99 ? -2 : far[other];
    }

    int busiest() {
        int best = -2;
        for (int i = now.people.size() - 1; i >= 0; i--) {
            int fame = now.people.get(i).fame;
            if (fame > 0 && (best < 0 || fame >= now.people.get(best).fame)) {
                best = i;
            }
        }
        return best;
    }

    int hard(int man) {
        if (!isMan(man)) {
            return NONE;
        }
        int bits = 0;
        for (int i = 0; i < now.rings.size(); i++) {
            Ring r = now.rings.get(i);
            if (r.to == man && r.tried > 0 && (r.state == 0 || r.state == 3)) {
                bits += 1 << i;
            }
        }
        return bits;
    }

    int hear(int quarter, int man, boolean isEngaged) {
        if (quarter < 0 || quarter > 60 || !isMan(man) || heard.size() == 24) {
            return NONE;
        }
        heard.add(new int[] {isEngaged ? 1 : 0, quarter, man});
        return heard.size() - 1;
    }

    int out(int h) {
        if (h < 0 || h >= heard.size() || heard.size() == 24) {
            return NONE;
        }
        heard.add(new int[] {2, h, 0});
        return heard.size() - 1;
    }

    boolean known(int n) {
        if (n < -1 || n > heard.size()) {
            return false;
        }
        known = n;
        return true;
    }

    private boolean isStruck(int i, int n) {
        for (int j = i + 1; j < n; j++) {
            if (heard.get(j)[0] == 2 && heard.get(j)[1] == i && !isStruck(j, n)) {
                return true;
            }
        }
        return false;
    }

    int spans(int tone) {
        if (tone < 0 || tone >= text.tones.size()) {
            return NONE;
        }
        int n = known < 0 ? heard.size() : known;
        int bits = 0;
        for (int many = 1; many <= 10; many++) {
            boolean ok = true;
            for (int i = 0; i < n; i++) {
                int[] h = heard.get(i);
                if (h[0] < 2 && !isStruck(i, n)) {
                    State s = text.twin();
                    s.tones.get(tone).many = many;
                    ok &= s.after(h[1] + 1).engaged(h[2]) == (h[0] == 1);
                }
            }
            bits |= ok ? 1 << many - 1 : 0;
        }
        return bits;
    }

    int chance(int seed, int n, int through) {
        if (seed < 0 || n < 1 || n > 99 || through < 0 || through > 10) {
            return NONE;
        }
        long[] draw = {seed};
        int times = 0;
        for (int i = 0; i < 10; i++) {
            State s = now.twin();
            s.draw = draw;
            times += s.after(n).throughs() - now.throughs() >= through ? 1 : 0;
        }
        return times;
    }

    int tried(int what, int i, int n) {
        if (what < 0 || what > 5 || n < 0 || n > 99 || (what == 2 ? !isMan(i) : i != 0)) {
            return NONE;
        }
        return givenUp(n, s -> {
            switch (what) {
                case 1: s.tones.clear(); break;
                case 2: s.silent = i; break;
                case 3: s.lines = 6; break;
                case 4: s.tries = 9; break;
                case 5: s.free = true; break;
                default: break;
            }
        });
    }

    int undo() {
        if (past.isEmpty()) {
            return NONE;
        }
        now = past.remove(past.size() - 1);
        return past.size();
    }

    int keep() {
        image = now.twin();
        return now.quarter;
    }

    int back() {
        if (image == null) {
            return NONE;
        }
        now = image.twin();
        past.clear();
        return now.quarter;
    }

    int count(int what) {
        if (what < 0 || what > 14) {
            return NONE;
        }
        return new int[] {now.people.size(), now.tones.size(), now.rings.size(), now.knots, now.quarter,
            now.with(0), now.with(1), now.with(2), now.with(3), now.paid, now.engagedCount(),
            now.rings.stream().mapToInt(r -> r.tried).sum(), heard.size(), known < 0 ? heard.size() : known,
            past.size()}[what];
    }
}
