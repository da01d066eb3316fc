import java.util.NoSuchElementException;
import java.util.Random;

/** Long runs of calls by chance (always the same ones) on EngagedTone and on the Model, answer by answer. */
final class ModelTest {
    private static final String[] NAMES = {"ann", "bo", "cyrano", "d", "eve", "fox"};
    private static final String[] WORDS = {"turn", "vain", "purse", "busy", "known", "cost", "time"};
    private static final String[] PIECES = {"man", "tone", "price", "ring", "lines", "tries", "seed", "law", "again",
        "fame", "dear", "or", "and", "not", "turn", "time", ";", "(", ")", "+", "<", "<=", "<>", ">", "=", "/", "*",
        "0", "7", "99", "100", "10000", "ann", "bo", "zzz", "toolong", "#", " ", "A"};

    private final Random random;
    private final EngagedTone x = new EngagedTone();
    private final Model y = new Model();
    private final int run;
    private int people;

    private ModelTest(int run) {
        this.run = run;
        random = new Random(run * 7919L + 17);
    }

    public static void main(String[] args) {
        int runs = args.length > 0 ? Integer.parseInt(args[0]) : 1500;
        int first = args.length > 1 ? Integer.parseInt(args[1]) : 0;
        for (int run = first; run < first + runs; run++) {
            new ModelTest(run).calls();
        }
        Check.end();
    }

    private void calls() {
        tellBoth(goodText());
        for (int i = 0; i < 150; i++) {
            oneCall();
        }
    }

    private int upTo(int most) {
        return random.nextInt(most + 1);
    }

    /** Mostly within 0 to most, now and then just beyond. */
    private int about(int most) {
        switch (upTo(19)) {
            case 0: return -1;
            case 1: return most + 1;
            case 2: return random.nextInt();
            default: return upTo(most);
        }
    }

    private void tellBoth(String text) {
        for (int at = 0; at < text.length(); at += 20) {
            int[] five = new int[5];
            for (int k = 0; k < 20; k++) {
                int sign = at + k < text.length() ? text.charAt(at + k) : ' ';
                five[k / 4] = five[k / 4] << 8 | sign;
            }
            due("feed", x.feed(five[0], five[1], five[2], five[3], five[4]),
                y.feed(five[0], five[1], five[2], five[3], five[4]));
        }
        int n = Math.min(text.length(), 700);
        due("text '" + text + "'", x.text(n), y.text(n));
        due("fault(0) '" + text + "'", x.fault(0), y.fault(0));
        due("fault(1) '" + text + "'", x.fault(1), y.fault(1));
        due("knots '" + text + "'", x.count(3), y.count(3));
    }

    private void due(String call, long got, long want) {
        Check.due("run " + run + ": " + call, got, want);
    }

    private String goodText() {
        StringBuilder s = new StringBuilder();
        people = upTo(30) == 0 ? 1 : 2 + upTo(4);
        for (int i = 0; i < people; i++) {
            s.append("man ").append(NAMES[i]).append(' ').append(upTo(99)).append(' ').append(upTo(upTo(1) * 900 + 99));
            s.append(';');
        }
        int spread = 1 + upTo(upTo(1) == 0 ? 5 : 30);
        for (int i = upTo(upTo(1) == 0 ? 8 : 4); i > 0; i--) {
            s.append("tone ").append(NAMES[upTo(people - 1)]).append(' ').append(upTo(spread));
            s.append(' ').append(1 + upTo(7)).append(';');
        }
        for (int i = upTo(2) * upTo(3); i > 0; i--) {
            s.append("price ").append(upTo(spread)).append(' ').append(upTo(40)).append(';');
        }
        for (int i = people < 2 ? 0 : upTo(10); i > 0; i--) {
            int from = upTo(people - 1);
            int to = (from + 1 + upTo(people - 2)) % people;
            s.append("ring ").append(NAMES[from]).append(' ').append(NAMES[to]).append(' ').append(upTo(spread));
            s.append(' ').append(1 + upTo(8)).append(';');
        }
        if (upTo(1) == 0) {
            s.append("lines ").append(1 + upTo(5)).append(';');
        }
        if (upTo(1) == 0) {
            s.append("tries ").append(1 + upTo(8)).append(';');
        }
        if (upTo(3) == 0) {
            s.append("seed ").append(upTo(99999)).append(';');
        }
        for (String rule : new String[] {"again", "fame", "dear"}) {
            if (upTo(1) == 0) {
                s.append("law ").append(rule).append(' ').append(expression(3)).append(';');
            }
        }
        return s.toString();
    }

    private String expression(int depth) {
        if (depth == 0 || upTo(3) == 0) {
            return upTo(1) == 0 ? Integer.toString(upTo(upTo(5) == 0 ? 9999 : 9)) : WORDS[upTo(6)];
        }
        switch (upTo(5)) {
            case 0: return "(" + expression(depth - 1) + ")";
            case 1: return "(not " + expression(depth - 1) + ")";
            case 2: return part(depth) + new String[] {" and ", " or "}[upTo(1)] + part(depth);
            case 3: return part(depth) + new String[] {"<", "<=", "=", "<>", ">=", ">"}[upTo(5)] + part(depth);
            default: return part(depth) + new String[] {"+", "-", "*", "/"}[upTo(3)] + part(depth);
        }
    }

    private String part(int depth) {
        return upTo(2) == 0 ? "(" + expression(depth - 1) + ")" : expression(depth - 1);
    }

    private String spoiltText() {
        StringBuilder s = new StringBuilder(upTo(3) == 0 ? "law again " + expression(5) + ";" : goodText());
        for (int i = upTo(2); i >= 0; i--) {
            int at = upTo(s.length());
            switch (upTo(2)) {
                case 0: s.insert(at, PIECES[upTo(PIECES.length - 1)]); break;
                case 1: s.insert(at, " " + PIECES[upTo(PIECES.length - 1)] + " "); break;
                default: s.delete(at, Math.min(s.length(), at + 1 + upTo(3))); break;
            }
        }
        return s.toString();
    }

    private void oneCall() {
        int man = about(people - 1);
        int ring = about(Math.max(0, y.count(2) - 1));
        int tone = about(Math.max(0, y.count(1) - 1));
        int n = about(upTo(1) == 0 ? 99 : 9);
        int now = y.count(4);
        switch (upTo(43)) {
            case 0: ringCall(ring, about(5)); break;
            case 1: allOf(); break;
            case 2: { int w = about(4); due("man(" + man + ", " + w + ")", x.man(man, w), y.man(man, w)); break; }
            case 3: { int w = about(3); due("tone(" + tone + ", " + w + ")", x.tone(tone, w), y.tone(tone, w)); break; }
            case 4: { int q = about(9999); due("price(" + q + ")", x.price(q), y.price(q)); break; }
            case 5: case 6: {
                int w = about(2);
                int k = about(9);
                due("law(" + w + ", " + k + ")", x.law(w, k), y.law(w, k));
                break;
            }
            case 7: case 8: {
                int from = now - 1 + upTo(6);
                int many = about(16);
                due("buy(" + man + ", " + from + ", " + many + ")", x.buy(man, from, many), y.buy(man, from, many));
                break;
            }
            case 9: case 10: {
                int q = upTo(9) == 0 ? 9999 + upTo(1) : now - 1 + upTo(6);
                due("put(" + ring + ", " + q + ")", x.put(ring, q) ? 1 : 0, y.put(ring, q) ? 1 : 0);
                break;
            }
            case 11: due("hang(" + ring + ")", x.hang(ring), y.hang(ring)); break;
            case 12: { int p = about(99); due("lend(" + man + ", " + p + ")", x.lend(man, p), y.lend(man, p)); break; }
            case 13: case 14: case 15: {
                int g = upTo(30) == 0 ? n : upTo(2);
                due("go(" + g + ")", x.go(g), y.go(g));
                break;
            }
            case 16: case 17: {
                int w = about(3);
                due("ahead(" + n + ", " + w + ", " + man + ")", x.ahead(n, w, man), y.ahead(n, w, man));
                break;
            }
            case 18: due("through(" + ring + ")", x.through(ring), y.through(ring)); break;
            case 19: { int w = about(1); due("when(" + ring + ", " + w + ")", x.when(ring, w), y.when(ring, w)); break; }
            case 20: due("lines()", x.lines(), y.lines()); break;
            case 21: if (upTo(3) == 0) { due("stop(" + ring + ")", x.stop(ring), y.stop(ring)); } break;
            case 22: { int w = about(3); due("shift(" + w + ")", x.shift(w), y.shift(w)); break; }
            case 23: { int o = about(5); due("rests(" + man + ", " + o + ")", x.rests(man, o), y.rests(man, o)); break; }
            case 24: {
                int o = about(5);
                int k = about(2);
                due("rest(" + man + ", " + o + ", " + k + ")", x.rest(man, o, k), y.rest(man, o, k));
                break;
            }
            case 25: {
                int bits = about((1 << people) - 1);
                int w = about(1);
                due("auction(" + bits + ", " + w + ")", x.auction(bits, w), y.auction(bits, w));
                break;
            }
            case 26: {
                int w = about(1);
                due("part(" + man + ", " + n + ", " + w + ")", x.part(man, n, w), y.part(man, n, w));
                break;
            }
            case 27: { int o = about(5); due("round(" + man + ", " + o + ")", x.round(man, o), y.round(man, o)); break; }
            case 28: due("busiest()", x.busiest(), y.busiest()); break;
            case 29: due("hard(" + man + ")", x.hard(man), y.hard(man)); break;
            default: rarerCall(man, ring, n); break;
        }
    }

    private void rarerCall(int man, int ring, int n) {
        switch (upTo(13)) {
            case 0: case 1: case 2: {
                int q = about(upTo(1) == 0 ? 60 : 9);
                boolean is = random.nextBoolean();
                due("hear(" + q + ", " + man + ", " + is + ")", x.hear(q, man, is), y.hear(q, man, is));
                break;
            }
            case 3: case 4: { int h = about(24); due("out(" + h + ")", x.out(h), y.out(h)); break; }
            case 5: { int k = about(24) - 1; due("known(" + k + ")", x.known(k) ? 1 : 0, y.known(k) ? 1 : 0); break; }
            case 6: { int t = about(7); due("spans(" + t + ")", x.spans(t), y.spans(t)); break; }
            case 7: {
                int seed = random.nextInt();
                int t = about(10);
                due("chance(" + seed + ", " + n + ", " + t + ")", x.chance(seed, n, t), y.chance(seed, n, t));
                break;
            }
            case 8: {
                int w = about(5);
                int i = upTo(3) == 0 ? man : w == 2 ? man : 0;
                due("tried(" + w + ", " + i + ", " + n + ")", x.tried(w, i, n), y.tried(w, i, n));
                break;
            }
            case 9: due("undo()", x.undo(), y.undo()); break;
            case 10: due("keep()", x.keep(), y.keep()); break;
            case 11: if (upTo(2) == 0) { due("back()", x.back(), y.back()); } break;
            case 12: { int w = about(14); due("count(" + w + ")", x.count(w), y.count(w)); break; }
            default: if (upTo(2) == 0) { tellBoth(upTo(1) == 0 ? goodText() : spoiltText()); } break;
        }
    }

    private void ringCall(int ring, int what) {
        due("ring(" + ring + ", " + what + ")", ofX(ring, what), ofY(ring, what));
    }

    private long ofX(int ring, int what) {
        try {
            return x.ring(ring, what);
        } catch (IndexOutOfBoundsException e) {
            return 1000001;
        } catch (NoSuchElementException e) {
            return 1000002;
        }
    }

    private long ofY(int ring, int what) {
        try {
            return y.ring(ring, what);
        } catch (IndexOutOfBoundsException e) {
            return 1000001;
        } catch (NoSuchElementException e) {
            return 1000002;
        }
    }

    private void allOf() {
        for (int what = 0; what <= 14; what++) {
            due("count(" + what + ")", x.count(what), y.count(what));
        }
        for (int i = 0; i < 10; i++) {
            for (int what = 0; what < 6; what++) {
                ringCall(i, what);
                due("man(" + i + ", " + what + ")", x.man(i, what), y.man(i, what));
                due("tone(" + i + ", " + what + ")", x.tone(i, what), y.tone(i, what));
            }
        }
    }
}
