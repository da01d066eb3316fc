import java.util.NoSuchElementException;

/**
 * The seller of the engaged tone: people who buy an engaged tone to seem busy, the calls that
 * it turns away, and what comes of both, quarter of an hour by quarter of an hour.
 */
public final class EngagedTone {
    public static final int NONE = -1;

    private static final int NEVER = -2;

    private static final int MOST_BYTES = 700;
    private static final int MOST_PEOPLE = 6;
    private static final int MOST_TONES = 8;
    private static final int MOST_PRICES = 6;
    private static final int MOST_RINGS = 10;
    private static final int MOST_KNOTS = 64;
    private static final int MOST_OPEN = 8;
    private static final int MOST_HEARD = 24;
    private static final int MOST_DEEDS = 20;
    private static final int MOST_LINES = 6;
    private static final int MOST_TRIES = 9;
    private static final int MOST_LETTERS = 6;
    private static final int MOST_SPAN = 16;
    private static final int LAWS = 3;

    private static final int LAST_QUARTER = 9999;
    private static final int LAST_GONE = 9900;
    private static final int LAST_HEARD = 60;
    private static final int SIGHT = 99;
    private static final int PUT_SIGHT = 20;
    private static final int SHIFTED = 3;
    private static final int SHIFTS = 4;
    private static final int SPANS = 10;
    private static final int DRAWS = 10;

    private static final int PRICE_UNTOLD = 5;
    private static final int LINES_UNTOLD = 3;
    private static final int TRIES_UNTOLD = 3;
    private static final int COST_MOST = 999;
    private static final int PURSE_MOST = 9999;
    private static final int FAME_MOST = 9999;

    private static final int WAITING = 0;
    private static final int SPEAKING = 1;
    private static final int OVER = 2;
    private static final int GIVEN_UP = 3;

    private static final int TO_BEGIN = 0;
    private static final int RUNS = 1;
    private static final int ENDED = 2;
    private static final int DEAD = 3;

    private static final int DEED_BUY = 0;
    private static final int DEED_PUT = 1;
    private static final int DEED_HANG = 2;
    private static final int DEED_LEND = 3;

    private static final int HEARD_FREE = 0;
    private static final int HEARD_ENGAGED = 1;
    private static final int HEARD_STRIKE = 2;

    private static final int FAULT_STRAY = 1;
    private static final int FAULT_MUCH = 2;
    private static final int FAULT_TOLD = 3;
    private static final int FAULT_UNKNOWN = 4;
    private static final int FAULT_ONESELF = 5;

    private static final int LAW_AGAIN = 0;
    private static final int LAW_FAME = 1;
    private static final int LAW_DEAR = 2;
    private static final long ERROR = Long.MIN_VALUE;
    private static final long VALUE_MOST = 1000000000000L;

    // Token kinds: the words stand in the order of WORDS, the signs in the order of SIGNS.
    private static final int T_END = 0;
    private static final int T_BAD = 1;
    private static final int T_NAME = 2;
    private static final int T_NUMBER = 3;
    private static final int T_MAN = 4;
    private static final int T_TONE = 5;
    private static final int T_PRICE = 6;
    private static final int T_RING = 7;
    private static final int T_LINES = 8;
    private static final int T_TRIES = 9;
    private static final int T_SEED = 10;
    private static final int T_LAW = 11;
    private static final int T_AGAIN = 12;
    private static final int T_DEAR = 14;
    private static final int T_TURN = 15;
    private static final int T_TIME = 21;
    private static final int T_OR = 22;
    private static final int T_AND = 23;
    private static final int T_NOT = 24;
    private static final int T_SEMICOLON = 25;
    private static final int T_OPEN = 26;
    private static final int T_CLOSE = 27;
    private static final int T_PLUS = 28;
    private static final int T_MINUS = 29;
    private static final int T_TIMES = 30;
    private static final int T_BY = 31;
    private static final int T_SAME = 32;
    private static final int T_LESS = 33;
    private static final int T_LESS_SAME = 34;
    private static final int T_OTHER = 35;
    private static final int T_MORE = 36;
    private static final int T_MORE_SAME = 37;

    private static final String WORDS =
        "man tone price ring lines tries seed law again fame dear turn vain purse busy known cost time or and not ";
    private static final int WORD_COUNT = 21;
    private static final String SIGNS = ";()+-*/=";

    private static final int RANK_OPEN = 0;
    private static final int RANK_OR = 1;
    private static final int RANK_AND = 2;
    private static final int RANK_NOT = 3;
    private static final int RANK_COMPARE = 4;
    private static final int RANK_SUM = 5;
    private static final int RANK_PRODUCT = 6;

    private final byte[] tape = new byte[MOST_BYTES];
    private int taped;
    private Script told = new Script();
    private final World now = new World();
    private final World image = new World();
    private boolean hasImage;
    private final Reader reader = new Reader();
    private final Exchange exchange = new Exchange();
    private final Foresight foresight = new Foresight();
    private final Rumours rumours = new Rumours();
    private final Deeds deeds = new Deeds();

    public EngagedTone() {
        taped = 0;
    }

    public int feed(int a, int b, int c, int d, int e) {
        if (taped + 20 > MOST_BYTES) {
            return NONE;
        }
        tapeNumber(a);
        tapeNumber(b);
        tapeNumber(c);
        tapeNumber(d);
        tapeNumber(e);
        return taped;
    }

    private void tapeNumber(int number) {
        for (int shift = 24; shift >= 0 && taped < MOST_BYTES; shift -= 8) {
            tape[taped] = (byte) (number >>> shift);
            taped++;
        }
    }

    public int text(int n) {
        if (n < 0 || n > taped) {
            return NEVER;
        }
        taped = 0;
        if (!reader.read(tape, n)) {
            return NONE;
        }
        told = reader.handOver(told);
        now.become(told.first);
        rumours.wipe();
        deeds.wipe();
        hasImage = false;
        return reader.linesRead;
    }

    public int fault(int what) {
        switch (what) {
            case 0: return reader.faultKind;
            case 1: return reader.faultPlace;
            default: return NONE;
        }
    }

    public int named(int letters) {
        return told.personNamed(letters);
    }

    public int ring(int ring, int what) throws IndexOutOfBoundsException, NoSuchElementException {
        if (!isRing(ring)) {
            throw new IndexOutOfBoundsException("no such call");
        }
        switch (what) {
            case 0: return now.ringFrom[ring];
            case 1: return now.ringTo[ring];
            case 2: return now.ringDue[ring];
            case 3: return now.ringLong[ring];
            case 4: return now.ringState[ring];
            case 5: return now.ringTried[ring];
            default: throw new NoSuchElementException("no such what");
        }
    }

    public int man(int man, int what) {
        if (!isPerson(man)) {
            return NONE;
        }
        switch (what) {
            case 0: return told.vain[man];
            case 1: return now.purse[man];
            case 2: return now.fame[man];
            case 3: return (now.engaged() >> man) & 1;
            case 4: return now.ringOf(man);
            default: return NONE;
        }
    }

    public int tone(int tone, int what) {
        if (!isTone(tone)) {
            return NONE;
        }
        switch (what) {
            case 0: return now.toneMan[tone];
            case 1: return now.toneFrom[tone];
            case 2: return now.toneMany[tone];
            case 3: return now.toneState[tone];
            default: return NONE;
        }
    }

    public int price(int quarter) {
        if (quarter < 0 || quarter > LAST_QUARTER) {
            return NONE;
        }
        return told.priceAt(quarter);
    }

    public long law(int what, int which) {
        exchange.open(told);
        switch (what) {
            case LAW_AGAIN:
                return isRing(which)
                    ? exchange.valueOf(now, LAW_AGAIN, now.ringFrom[which], now.ringTried[which] + 1) : ERROR;
            case LAW_FAME:
                return isPerson(which) ? exchange.valueOf(now, LAW_FAME, which, 0) : ERROR;
            case LAW_DEAR:
                return isTone(which) ? exchange.valueOf(now, LAW_DEAR, now.toneMan[which], 0) : ERROR;
            default:
                return ERROR;
        }
    }

    public int buy(int man, int from, int many) {
        if (!isPerson(man) || from < now.quarter || from > LAST_QUARTER || many < 1 || many > MOST_SPAN) {
            return NONE;
        }
        if (now.tones >= MOST_TONES) {
            return NONE;
        }
        deeds.add(DEED_BUY, now.tones, 0);
        now.addTone(man, from, many);
        return now.tones - 1;
    }

    public boolean put(int ring, int quarter) {
        if (!isWaiting(ring) || quarter < now.quarter || quarter > LAST_QUARTER) {
            return false;
        }
        if (now.ringDue[ring] == quarter) {
            return false;
        }
        deeds.add(DEED_PUT, ring, now.ringDue[ring]);
        now.ringDue[ring] = quarter;
        return true;
    }

    public int hang(int ring) {
        if (!isRing(ring)) {
            return NONE;
        }
        if (now.ringState[ring] != SPEAKING) {
            return NEVER;
        }
        deeds.add(DEED_HANG, ring, 0);
        now.ringState[ring] = OVER;
        return now.ringDue[ring] + now.ringLong[ring] - now.quarter;
    }

    public int lend(int man, int pence) {
        if (!isPerson(man) || pence < 1 || pence > 99 || now.purse[man] + pence > PURSE_MOST) {
            return NONE;
        }
        deeds.add(DEED_LEND, man, now.purse[man]);
        now.purse[man] += pence;
        return now.purse[man];
    }

    public int go(int n) {
        if (n < 0 || n > SIGHT || now.quarter + n > LAST_GONE) {
            return NONE;
        }
        exchange.open(told);
        for (int i = 0; i < n; i++) {
            exchange.step(now);
        }
        if (n > 0) {
            deeds.wipe();
        }
        return now.quarter;
    }

    public int ahead(int n, int what, int man) {
        if (n < 0 || n > SIGHT || what < 0 || what > 3 || (what == 3 && !isPerson(man))) {
            return NONE;
        }
        foresight.look(told, now);
        foresight.run(n);
        World then = foresight.trial;
        switch (what) {
            case 0: return then.throughs() - now.throughs();
            case 1: return then.ringsThatAre(GIVEN_UP) - now.ringsThatAre(GIVEN_UP);
            case 2: return then.paid - now.paid;
            default: return then.fame[man];
        }
    }

    public int through(int ring) {
        if (!isRing(ring)) {
            return NONE;
        }
        if (now.isThrough(ring)) {
            return 0;
        }
        foresight.look(told, now);
        return foresight.quartersTillThrough(ring);
    }

    public int when(int ring, int what) {
        if (!isRing(ring) || what < 0 || what > 1) {
            return NONE;
        }
        if (now.ringState[ring] != WAITING) {
            return NEVER;
        }
        int soonest = SIGHT + 1;
        int best = NEVER;
        for (int later = 0; later < PUT_SIGHT; later++) {
            foresight.look(told, now);
            foresight.trial.ringDue[ring] = now.quarter + later;
            foresight.trial.ringTried[ring] = 0;
            int over = foresight.quartersTillOver(ring, soonest - 1);
            if (over != NEVER) {
                soonest = over;
                best = later;
            }
        }
        return best == NEVER || what == 0 ? best : soonest;
    }

    public int lines() {
        for (int lines = 1; lines <= MOST_LINES; lines++) {
            foresight.look(told, now);
            foresight.exchange.lines = lines;
            if (foresight.givenUpIn(SIGHT) == 0) {
                return lines;
            }
        }
        return NEVER;
    }

    public int stop(int ring) {
        if (!isRing(ring)) {
            return NONE;
        }
        if (now.ringState[ring] != WAITING) {
            return NEVER;
        }
        int allowed = now.livingTones(now.ringFrom[ring]);
        int size = Integer.bitCount(allowed);
        for (int few = 0; few <= size; few++) {
            int found = fewToStop(ring, allowed, few);
            if (found != NEVER) {
                return found;
            }
        }
        return NEVER;
    }

    /** The least set of so few allowed tones without which the call gets through; NEVER without one. */
    private int fewToStop(int ring, int allowed, int few) {
        for (int set = 0; set < (1 << MOST_TONES); set++) {
            if ((set & ~allowed) != 0 || Integer.bitCount(set) != few) {
                continue;
            }
            foresight.look(told, now);
            foresight.trial.killTones(set);
            if (foresight.quartersTillThrough(ring) != NEVER) {
                return set;
            }
        }
        return NEVER;
    }

    public int shift(int what) {
        if (what < 0 || what > SHIFTED) {
            return NONE;
        }
        if (what < SHIFTED && now.toneToBegin(what) == NONE) {
            return NEVER;
        }
        return foresight.bestShift(told, now, what);
    }

    public int rests(int one, int other) {
        if (!areRivals(one, other)) {
            return NONE;
        }
        int rests = 0;
        for (int choice = 0; choice < 4; choice++) {
            if (isRest(one, other, choice)) {
                rests++;
            }
        }
        return rests;
    }

    public int rest(int one, int other, int k) {
        if (!areRivals(one, other) || k < 0) {
            return NONE;
        }
        int left = k;
        for (int choice = 0; choice < 4; choice++) {
            if (isRest(one, other, choice)) {
                if (left == 0) {
                    return 10 * (choice >> 1) + (choice & 1);
                }
                left--;
            }
        }
        return NEVER;
    }

    /** Of a choice the higher bit is the first rival's, the lower one the second rival's. */
    private boolean isRest(int one, int other, int choice) {
        int mine = choice >> 1;
        int theirs = choice & 1;
        int pence = told.priceAt(now.quarter);
        int vainOne = told.vain[one];
        int vainOther = told.vain[other];
        return gain(vainOne, pence, mine, theirs) >= gain(vainOne, pence, 1 - mine, theirs)
            && gain(vainOther, pence, theirs, mine) >= gain(vainOther, pence, 1 - theirs, mine);
    }

    private static int gain(int vain, int pence, int mine, int theirs) {
        if (mine == 0) {
            return (theirs == 0 ? vain / 2 : vain) - pence;
        }
        return theirs == 0 ? -(vain / 4) : 0;
    }

    public int auction(int people, int what) {
        if (people < 0 || people >= (1 << told.people) || what < 0 || what > 1) {
            return NONE;
        }
        if (people == 0) {
            return NEVER;
        }
        int winner = greatestBidder(people);
        if (what == 0) {
            return winner;
        }
        int next = greatestBidder(people & ~(1 << winner));
        return next == NONE ? 0 : bidOf(next);
    }

    private int greatestBidder(int people) {
        int best = NONE;
        for (int man = 0; man < told.people; man++) {
            if (((people >> man) & 1) != 0 && (best == NONE || bidOf(man) > bidOf(best))) {
                best = man;
            }
        }
        return best;
    }

    private int bidOf(int man) {
        return isPerson(man) ? Math.min(told.vain[man], now.purse[man]) : 0;
    }

    public int part(int man, int n, int what) {
        if (!isPerson(man) || n < 1 || n > SIGHT || what < 0 || what > 1) {
            return NONE;
        }
        foresight.look(told, now);
        int engaged = foresight.engagedIn(n, man);
        int common = greatestCommon(n, engaged);
        if (common == 0) {
            return NONE;
        }
        return (what == 0 ? engaged : n) / common;
    }

    private static int greatestCommon(int one, int other) {
        int big = one;
        int small = other;
        for (int i = 0; i < SIGHT && small != 0; i++) {
            int left = big % small;
            big = small;
            small = left;
        }
        return big;
    }

    public int round(int one, int other) {
        if (!isPerson(one) || !isPerson(other)) {
            return NONE;
        }
        int reached = 1 << one;
        for (int rings = 0; rings < MOST_PEOPLE; rings++) {
            if (((reached >> other) & 1) != 0) {
                return rings;
            }
            reached |= now.calledWith(reached);
        }
        return NEVER;
    }

    public int busiest() {
        int best = NEVER;
        int most = 0;
        for (int man = 0; man < told.people; man++) {
            if (now.fame[man] > most) {
                most = now.fame[man];
                best = man;
            }
        }
        return best;
    }

    public int hard(int man) {
        if (!isPerson(man)) {
            return NONE;
        }
        int rings = 0;
        for (int ring = 0; ring < now.rings; ring++) {
            if (now.ringTo[ring] == man && now.ringTried[ring] > 0 && !now.isThrough(ring)) {
                rings |= 1 << ring;
            }
        }
        return rings;
    }

    public int hear(int quarter, int man, boolean isEngaged) {
        if (quarter < 0 || quarter > LAST_HEARD || !isPerson(man)) {
            return NONE;
        }
        return rumours.add(isEngaged ? HEARD_ENGAGED : HEARD_FREE, quarter, man);
    }

    public int out(int heard) {
        if (heard < 0 || heard >= rumours.heard) {
            return NONE;
        }
        return rumours.add(HEARD_STRIKE, 0, heard);
    }

    public boolean known(int n) {
        if (n < -1 || n > rumours.heard) {
            return false;
        }
        rumours.believed = n;
        return true;
    }

    public int spans(int tone) {
        if (tone < 0 || tone >= told.first.tones) {
            return NONE;
        }
        rumours.judge();
        int spans = 0;
        for (int span = 1; span <= SPANS; span++) {
            foresight.look(told, told.first);
            foresight.trial.toneMany[tone] = span;
            if (foresight.bearsOut(rumours)) {
                spans |= 1 << (span - 1);
            }
        }
        return spans;
    }

    public int chance(int seed, int n, int through) {
        if (seed < 0 || n < 1 || n > SIGHT || through < 0 || through > MOST_RINGS) {
            return NONE;
        }
        int times = 0;
        long drawn = seed;
        for (int i = 0; i < DRAWS; i++) {
            foresight.look(told, now);
            foresight.exchange.isDrawing = true;
            foresight.exchange.drawn = drawn;
            foresight.run(n);
            drawn = foresight.exchange.drawn;
            if (foresight.trial.throughs() - now.throughs() >= through) {
                times++;
            }
        }
        return times;
    }

    public int tried(int what, int i, int n) {
        if (what < 0 || what > 5 || n < 0 || n > SIGHT) {
            return NONE;
        }
        if (what == 2 ? !isPerson(i) : i != 0) {
            return NONE;
        }
        foresight.look(told, now);
        switch (what) {
            case 1: foresight.trial.killTones((1 << MOST_TONES) - 1); break;
            case 2: foresight.exchange.silent = i; break;
            case 3: foresight.exchange.lines = MOST_LINES; break;
            case 4: foresight.exchange.tries = MOST_TRIES; break;
            case 5: foresight.exchange.isFree = true; break;
            default: break;
        }
        return foresight.givenUpIn(n);
    }

    public int undo() {
        if (!deeds.takeLatest()) {
            return NONE;
        }
        int which = deeds.lastWhich;
        switch (deeds.lastKind) {
            case DEED_BUY: now.dropTone(); break;
            case DEED_PUT: now.ringDue[which] = deeds.lastBefore; break;
            case DEED_HANG: now.ringState[which] = SPEAKING; break;
            default: now.purse[which] = deeds.lastBefore; break;
        }
        return deeds.done;
    }

    public int keep() {
        image.become(now);
        hasImage = true;
        return now.quarter;
    }

    public int back() {
        if (!hasImage) {
            return NONE;
        }
        now.become(image);
        deeds.wipe();
        return now.quarter;
    }

    public int count(int what) {
        switch (what) {
            case 0: return told.people;
            case 1: return now.tones;
            case 2: return now.rings;
            case 3: return told.laws.knots;
            case 4: return now.quarter;
            case 5: return now.ringsThatAre(WAITING);
            case 6: return now.ringsThatAre(SPEAKING);
            case 7: return now.ringsThatAre(OVER);
            case 8: return now.ringsThatAre(GIVEN_UP);
            case 9: return now.paid;
            case 10: return Integer.bitCount(now.engaged());
            case 11: return now.triesSoFar();
            case 12: return rumours.heard;
            case 13: return rumours.believedCount();
            case 14: return deeds.done;
            default: return NONE;
        }
    }

    private boolean isPerson(int man) {
        return man >= 0 && man < told.people;
    }

    private boolean isTone(int tone) {
        return tone >= 0 && tone < now.tones;
    }

    private boolean isRing(int ring) {
        return ring >= 0 && ring < now.rings;
    }

    private boolean isWaiting(int ring) {
        return isRing(ring) && now.ringState[ring] == WAITING;
    }

    private boolean areRivals(int one, int other) {
        return isPerson(one) && isPerson(other) && one != other;
    }

    /** All that quarters and calls change; it is copied for images and for what is only thought through. */
    private static final class World {
        int quarter;
        int paid;
        final int[] purse = new int[MOST_PEOPLE];
        final int[] fame = new int[MOST_PEOPLE];
        int tones;
        final int[] toneMan = new int[MOST_TONES];
        final int[] toneFrom = new int[MOST_TONES];
        final int[] toneMany = new int[MOST_TONES];
        final int[] toneState = new int[MOST_TONES];
        int rings;
        final int[] ringFrom = new int[MOST_RINGS];
        final int[] ringTo = new int[MOST_RINGS];
        /** Of a call that got through: the quarter at which it did. */
        final int[] ringDue = new int[MOST_RINGS];
        final int[] ringLong = new int[MOST_RINGS];
        final int[] ringState = new int[MOST_RINGS];
        final int[] ringTried = new int[MOST_RINGS];

        void wipe() {
            quarter = 0;
            paid = 0;
            tones = 0;
            rings = 0;
            for (int man = 0; man < MOST_PEOPLE; man++) {
                purse[man] = 0;
                fame[man] = 0;
            }
        }

        void become(World other) {
            quarter = other.quarter;
            paid = other.paid;
            System.arraycopy(other.purse, 0, purse, 0, MOST_PEOPLE);
            System.arraycopy(other.fame, 0, fame, 0, MOST_PEOPLE);
            tones = other.tones;
            System.arraycopy(other.toneMan, 0, toneMan, 0, MOST_TONES);
            System.arraycopy(other.toneFrom, 0, toneFrom, 0, MOST_TONES);
            System.arraycopy(other.toneMany, 0, toneMany, 0, MOST_TONES);
            System.arraycopy(other.toneState, 0, toneState, 0, MOST_TONES);
            rings = other.rings;
            System.arraycopy(other.ringFrom, 0, ringFrom, 0, MOST_RINGS);
            System.arraycopy(other.ringTo, 0, ringTo, 0, MOST_RINGS);
            System.arraycopy(other.ringDue, 0, ringDue, 0, MOST_RINGS);
            System.arraycopy(other.ringLong, 0, ringLong, 0, MOST_RINGS);
            System.arraycopy(other.ringState, 0, ringState, 0, MOST_RINGS);
            System.arraycopy(other.ringTried, 0, ringTried, 0, MOST_RINGS);
        }

        void addTone(int man, int from, int many) {
            if (tones >= MOST_TONES) {
                return;
            }
            toneMan[tones] = man;
            toneFrom[tones] = from;
            toneMany[tones] = many;
            toneState[tones] = TO_BEGIN;
            tones++;
        }

        void dropTone() {
            if (tones > 0) {
                tones--;
            }
        }

        void addRing(int from, int to, int quarterDue, int quartersLong) {
            if (rings >= MOST_RINGS) {
                return;
            }
            ringFrom[rings] = from;
            ringTo[rings] = to;
            ringDue[rings] = quarterDue;
            ringLong[rings] = quartersLong;
            ringState[rings] = WAITING;
            ringTried[rings] = 0;
            rings++;
        }

        /** People in a call that is spoken, as bits. */
        int talking() {
            int people = 0;
            for (int ring = 0; ring < rings; ring++) {
                if (ringState[ring] == SPEAKING) {
                    people |= 1 << ringFrom[ring] | 1 << ringTo[ring];
                }
            }
            return people;
        }

        /** People of whom a tone runs, as bits. */
        int toning() {
            int people = 0;
            for (int tone = 0; tone < tones; tone++) {
                if (toneState[tone] == RUNS) {
                    people |= 1 << toneMan[tone];
                }
            }
            return people;
        }

        int engaged() {
            return talking() | toning();
        }

        int ringOf(int man) {
            for (int ring = 0; ring < rings; ring++) {
                if (ringState[ring] == SPEAKING && (ringFrom[ring] == man || ringTo[ring] == man)) {
                    return ring;
                }
            }
            return NONE;
        }

        boolean isThrough(int ring) {
            return ringState[ring] == SPEAKING || ringState[ring] == OVER;
        }

        int throughs() {
            return ringsThatAre(SPEAKING) + ringsThatAre(OVER);
        }

        int ringsThatAre(int state) {
            int many = 0;
            for (int ring = 0; ring < rings; ring++) {
                if (ringState[ring] == state) {
                    many++;
                }
            }
            return many;
        }

        int triesSoFar() {
            int many = 0;
            for (int ring = 0; ring < rings; ring++) {
                many += ringTried[ring];
            }
            return many;
        }

        /** Whom some of these people spoke with so far, as bits. */
        int calledWith(int people) {
            int others = 0;
            for (int ring = 0; ring < rings; ring++) {
                int both = 1 << ringFrom[ring] | 1 << ringTo[ring];
                if (isThrough(ring) && (both & people) != 0) {
                    others |= both;
                }
            }
            return others;
        }

        /** Tones that run or are to begin, none of the one who calls, as bits. */
        int livingTones(int caller) {
            int living = 0;
            for (int tone = 0; tone < tones; tone++) {
                if (toneState[tone] <= RUNS && toneMan[tone] != caller) {
                    living |= 1 << tone;
                }
            }
            return living;
        }

        void killTones(int set) {
            for (int tone = 0; tone < tones; tone++) {
                if (((set >> tone) & 1) != 0) {
                    toneState[tone] = DEAD;
                }
            }
        }

        /** The k-th tone that is yet to begin, or NONE. */
        int toneToBegin(int k) {
            int left = k;
            for (int tone = 0; tone < tones; tone++) {
                if (toneState[tone] == TO_BEGIN) {
                    if (left == 0) {
                        return tone;
                    }
                    left--;
                }
            }
            return NONE;
        }

        void endCalls() {
            for (int ring = 0; ring < rings; ring++) {
                if (ringState[ring] == SPEAKING && ringDue[ring] + ringLong[ring] <= quarter) {
                    ringState[ring] = OVER;
                }
            }
        }

        void endTones() {
            for (int tone = 0; tone < tones; tone++) {
                if (toneState[tone] == RUNS && toneFrom[tone] + toneMany[tone] <= quarter) {
                    toneState[tone] = ENDED;
                }
            }
        }
    }

    /** What a text tells: the world at its first quarter, and what no quarter changes. */
    private static final class Script {
        int people;
        final int[] name = new int[MOST_PEOPLE];
        final int[] vain = new int[MOST_PEOPLE];
        int prices;
        final int[] priceFrom = new int[MOST_PRICES];
        final int[] pricePence = new int[MOST_PRICES];
        /** NONE while the text has not told it. */
        int lines = NONE;
        int tries = NONE;
        /** Nothing draws from it, for chance() brings a seed of its own: it is kept to be told once only. */
        int seed = NONE;
        final World first = new World();
        final Laws laws = new Laws();

        void wipe() {
            people = 0;
            prices = 0;
            lines = NONE;
            tries = NONE;
            seed = NONE;
            first.wipe();
            laws.wipe();
        }

        int personNamed(int letters) {
            for (int man = 0; man < people; man++) {
                if (name[man] == letters) {
                    return man;
                }
            }
            return NONE;
        }

        int priceAt(int quarter) {
            int latest = NONE;
            int pence = PRICE_UNTOLD;
            for (int i = 0; i < prices; i++) {
                if (priceFrom[i] <= quarter && priceFrom[i] >= latest) {
                    latest = priceFrom[i];
                    pence = pricePence[i];
                }
            }
            return pence;
        }

        int lineCount() {
            return lines == NONE ? LINES_UNTOLD : lines;
        }

        int tryCount() {
            return tries == NONE ? TRIES_UNTOLD : tries;
        }
    }

    /** The laws, each written with its signs behind what they join, so that a row of values works them out. */
    private static final class Laws {
        int knots;
        private int written;
        private final int[] kinds = new int[MOST_KNOTS];
        private final int[] numbers = new int[MOST_KNOTS];
        private final int[] starts = new int[LAWS];
        private final int[] ends = new int[LAWS];
        /** What the names mean, from turn to time. */
        final long[] meanings = new long[T_TIME - T_TURN + 1];
        private final long[] values = new long[MOST_KNOTS];

        void wipe() {
            knots = 0;
            written = 0;
            for (int law = 0; law < LAWS; law++) {
                starts[law] = 0;
                ends[law] = 0;
            }
        }

        boolean isTold(int law) {
            return law >= 0 && law < LAWS && ends[law] > starts[law];
        }

        void write(int kind, int number) {
            if (written < MOST_KNOTS) {
                kinds[written] = kind;
                numbers[written] = number;
                written++;
            }
        }

        int writtenSoFar() {
            return written;
        }

        void close(int law, int start) {
            if (law >= 0 && law < LAWS) {
                starts[law] = start;
                ends[law] = written;
            }
        }

        long work(int law) {
            if (!isTold(law)) {
                return ERROR;
            }
            int top = 0;
            for (int i = starts[law]; i < ends[law] && i < MOST_KNOTS; i++) {
                int kind = kinds[i];
                if (kind == T_NUMBER || isMeaning(kind)) {
                    values[top] = kind == T_NUMBER ? numbers[i] : meanings[kind - T_TURN];
                    top++;
                } else if (kind == T_NOT && top >= 1) {
                    values[top - 1] = values[top - 1] == 0 ? 1 : 0;
                } else if (top >= 2) {
                    top--;
                    values[top - 1] = join(kind, values[top - 1], values[top]);
                    if (values[top - 1] > VALUE_MOST || values[top - 1] < -VALUE_MOST) {
                        return ERROR;
                    }
                }
            }
            return values[0];
        }

        private static boolean isMeaning(int kind) {
            return kind >= T_TURN && kind <= T_TIME;
        }

        private static long join(int kind, long a, long b) {
            // A wrapped product could look small, so its size is judged ahead of it.
            long most = a == 0 ? VALUE_MOST : VALUE_MOST / (a < 0 ? -a : a);
            switch (kind) {
                case T_OR: return a != 0 || b != 0 ? 1 : 0;
                case T_AND: return a != 0 && b != 0 ? 1 : 0;
                case T_LESS: return a < b ? 1 : 0;
                case T_LESS_SAME: return a <= b ? 1 : 0;
                case T_SAME: return a == b ? 1 : 0;
                case T_OTHER: return a != b ? 1 : 0;
                case T_MORE_SAME: return a >= b ? 1 : 0;
                case T_MORE: return a > b ? 1 : 0;
                case T_PLUS: return a + b;
                case T_MINUS: return a - b;
                case T_TIMES: return b > most || b < -most ? ERROR : a * b;
                case T_BY: return b == 0 ? ERROR : a / b;
                default: return ERROR;
            }
        }
    }

    /** Lets quarters go by in a world: as the text tells, or as it would go otherwise. */
    private static final class Exchange {
        private Script script = new Script();
        int lines;
        int tries;
        boolean isFree;
        /** Who calls nobody, or NONE. */
        int silent = NONE;
        boolean isDrawing;
        long drawn;

        void open(Script text) {
            script = text;
            lines = text.lineCount();
            tries = text.tryCount();
            isFree = false;
            silent = NONE;
            isDrawing = false;
            drawn = 0;
        }

        void step(World world) {
            world.endCalls();
            world.endTones();
            for (int tone = 0; tone < world.tones; tone++) {
                if (world.toneState[tone] == TO_BEGIN && world.toneFrom[tone] == world.quarter) {
                    beginTone(world, tone);
                }
            }
            for (int ring = 0; ring < world.rings; ring++) {
                if (world.ringState[ring] == WAITING && world.ringDue[ring] == world.quarter
                    && world.ringFrom[ring] != silent) {
                    tryRing(world, ring);
                }
            }
            int idle = world.toning() & ~world.talking();
            for (int man = 0; man < script.people && idle != 0; man++) {
                if (((idle >> man) & 1) != 0) {
                    gainFame(world, man);
                }
            }
            world.quarter++;
        }

        private void beginTone(World world, int tone) {
            int man = world.toneMan[tone];
            long value = valueOf(world, LAW_DEAR, man, 0);
            int cost = value == ERROR
                ? Math.min(COST_MOST, script.priceAt(world.quarter) * world.toneMany[tone])
                : (int) Math.max(0L, Math.min((long) COST_MOST, value));
            if (isFree) {
                cost = 0;
            }
            if (world.purse[man] < cost) {
                world.toneState[tone] = DEAD;
                return;
            }
            world.purse[man] -= cost;
            world.paid += cost;
            world.toneState[tone] = RUNS;
        }

        private void tryRing(World world, int ring) {
            world.ringTried[ring]++;
            if (mayConnect(world, ring)) {
                world.ringState[ring] = SPEAKING;
                if (isDrawing) {
                    world.ringLong[ring] = draw() % 9 + 1;
                }
            } else if (world.ringTried[ring] >= tries) {
                world.ringState[ring] = GIVEN_UP;
            } else {
                // ERROR is below every value, so it waits the least time, as it should.
                long value = valueOf(world, LAW_AGAIN, world.ringFrom[ring], world.ringTried[ring]);
                world.ringDue[ring] = world.quarter + (int) Math.max(1L, Math.min(9L, value));
            }
        }

        private boolean mayConnect(World world, int ring) {
            int talking = world.talking();
            int engaged = talking | world.toning();
            return ((talking >> world.ringFrom[ring]) & 1) == 0
                && ((engaged >> world.ringTo[ring]) & 1) == 0
                && world.ringsThatAre(SPEAKING) < lines;
        }

        private int draw() {
            drawn = (drawn * 1103515245L + 12345L) & 0x7fffffffL;
            return (int) (drawn >> 16);
        }

        private void gainFame(World world, int man) {
            long value = valueOf(world, LAW_FAME, man, 0);
            int more = value == ERROR ? script.vain[man] / 10 + 1 : (int) Math.max(0L, Math.min(99L, value));
            world.fame[man] = Math.min(FAME_MOST, world.fame[man] + more);
        }

        /** A law's value now for a person; ERROR without such a law, too. */
        long valueOf(World world, int law, int man, int turn) {
            if (!script.laws.isTold(law)) {
                return ERROR;
            }
            long[] meanings = script.laws.meanings;
            meanings[0] = turn;
            meanings[1] = script.vain[man];
            meanings[2] = world.purse[man];
            meanings[3] = Integer.bitCount(world.engaged());
            meanings[4] = world.fame[man];
            meanings[5] = isFree ? 0 : script.priceAt(world.quarter);
            meanings[6] = world.quarter;
            return script.laws.work(law);
        }
    }

    /** Thinks quarters through in a world of its own. */
    private static final class Foresight {
        final World trial = new World();
        final Exchange exchange = new Exchange();

        void look(Script script, World from) {
            trial.become(from);
            exchange.open(script);
        }

        void run(int n) {
            for (int i = 0; i < n; i++) {
                exchange.step(trial);
            }
        }

        int givenUpIn(int n) {
            int before = trial.ringsThatAre(GIVEN_UP);
            for (int i = 0; i < n && trial.ringsThatAre(WAITING) > 0; i++) {
                exchange.step(trial);
            }
            return trial.ringsThatAre(GIVEN_UP) - before;
        }

        int quartersTillThrough(int ring) {
            for (int i = 1; i <= SIGHT && trial.ringState[ring] == WAITING; i++) {
                exchange.step(trial);
                if (trial.isThrough(ring)) {
                    return i;
                }
            }
            return NEVER;
        }

        int quartersTillOver(int ring, int most) {
            for (int i = 1; i <= most && trial.ringState[ring] != GIVEN_UP; i++) {
                exchange.step(trial);
                if (trial.ringState[ring] == OVER) {
                    return i;
                }
            }
            return NEVER;
        }

        int engagedIn(int n, int man) {
            int engaged = 0;
            for (int i = 0; i < n; i++) {
                exchange.step(trial);
                engaged += (trial.engaged() >> man) & 1;
            }
            return engaged;
        }

        /** Of the best shift: by how much its what-th tone is moved, or, behind these, how many are given up. */
        int bestShift(Script script, World from, int what) {
            int movable = 0;
            for (int k = 0; k < SHIFTED && from.toneToBegin(k) != NONE; k++) {
                movable++;
            }
            int best = 0;
            int fewest = MOST_RINGS + 1;
            for (int shift = 0; shift < (1 << (2 * movable)); shift++) {
                look(script, from);
                for (int k = 0; k < movable; k++) {
                    int tone = from.toneToBegin(k);
                    if (tone != NONE) {
                        trial.toneFrom[tone] += laterOf(shift, movable, k);
                    }
                }
                int givenUp = givenUpIn(SIGHT);
                if (givenUp < fewest) {
                    fewest = givenUp;
                    best = shift;
                }
            }
            return what == SHIFTED ? fewest : laterOf(best, movable, what);
        }

        /** The first tone's part stands highest, so that shifts in a row come first by tones. */
        private static int laterOf(int shift, int movable, int k) {
            return (shift >> (2 * (movable - 1 - k))) & (SHIFTS - 1);
        }

        boolean bearsOut(Rumours rumours) {
            int last = rumours.lastQuarter();
            for (int quarter = 0; quarter <= last; quarter++) {
                exchange.step(trial);
                if (!rumours.agree(quarter, trial.engaged())) {
                    return false;
                }
            }
            return true;
        }
    }

    /** What was heard, and what strikes it. */
    private static final class Rumours {
        int heard;
        /** NONE: all, also those to come. */
        int believed = NONE;
        private final int[] kind = new int[MOST_HEARD];
        private final int[] quarters = new int[MOST_HEARD];
        /** The person, or what is struck. */
        private final int[] whom = new int[MOST_HEARD];
        private final boolean[] isStruck = new boolean[MOST_HEARD];

        void wipe() {
            heard = 0;
            believed = NONE;
        }

        int add(int what, int quarter, int who) {
            if (heard >= MOST_HEARD) {
                return NONE;
            }
            kind[heard] = what;
            quarters[heard] = quarter;
            whom[heard] = who;
            heard++;
            return heard - 1;
        }

        int believedCount() {
            return believed == NONE ? heard : believed;
        }

        /** From the last one on, for only what isn't struck itself strikes. */
        void judge() {
            int many = believedCount();
            for (int i = 0; i < many; i++) {
                isStruck[i] = false;
            }
            for (int i = many - 1; i >= 0; i--) {
                if (kind[i] == HEARD_STRIKE && !isStruck[i] && whom[i] >= 0 && whom[i] < i) {
                    isStruck[whom[i]] = true;
                }
            }
        }

        private boolean counts(int i) {
            return kind[i] != HEARD_STRIKE && !isStruck[i];
        }

        int lastQuarter() {
            int last = NONE;
            int many = believedCount();
            for (int i = 0; i < many; i++) {
                if (counts(i)) {
                    last = Math.max(last, quarters[i]);
                }
            }
            return last;
        }

        boolean agree(int quarter, int engaged) {
            int many = believedCount();
            for (int i = 0; i < many; i++) {
                if (counts(i) && quarters[i] == quarter && ((engaged >> whom[i]) & 1) != kind[i]) {
                    return false;
                }
            }
            return true;
        }
    }

    /** What was done by call since the last quarter, the latest last. */
    private static final class Deeds {
        int done;
        int lastKind;
        int lastWhich;
        int lastBefore;
        private final int[] kinds = new int[MOST_DEEDS];
        private final int[] which = new int[MOST_DEEDS];
        private final int[] before = new int[MOST_DEEDS];

        void wipe() {
            done = 0;
        }

        void add(int kind, int what, int was) {
            if (done >= MOST_DEEDS) {
                dropFirst();
            }
            kinds[done] = kind;
            which[done] = what;
            before[done] = was;
            done++;
        }

        private void dropFirst() {
            for (int i = 1; i < MOST_DEEDS; i++) {
                kinds[i - 1] = kinds[i];
                which[i - 1] = which[i];
                before[i - 1] = before[i];
            }
            done = MOST_DEEDS - 1;
        }

        boolean takeLatest() {
            if (done <= 0) {
                return false;
            }
            done--;
            lastKind = kinds[done];
            lastWhich = which[done];
            lastBefore = before[done];
            return true;
        }
    }

    /** The tokens of a text, one at a time. */
    private static final class Tokens {
        int kind;
        int place;
        /** Of a number: it, or more than any limit; of a name: its letters, 5 bits each. */
        int value;
        private byte[] bytes = new byte[0];
        private int length;
        private int at;
        private final int[] words = new int[WORD_COUNT];

        Tokens() {
            int word = 0;
            int letters = 0;
            int many = 0;
            for (int i = 0; i < WORDS.length() && word < WORD_COUNT; i++) {
                char sign = WORDS.charAt(i);
                if (sign == ' ') {
                    words[word] = letters;
                    word++;
                    letters = 0;
                    many = 0;
                } else {
                    letters |= (sign - 'a' + 1) << (5 * (MOST_LETTERS - 1 - many));
                    many++;
                }
            }
        }

        void start(byte[] text, int n) {
            bytes = text;
            length = Math.min(n, text.length);
            at = 0;
            next();
        }

        private int signAt(int i) {
            return i >= 0 && i < length ? bytes[i] & 255 : 0;
        }

        void next() {
            while (at < length && (signAt(at) == ' ' || signAt(at) == '\n')) {
                at++;
            }
            place = at;
            value = 0;
            if (at >= length) {
                kind = T_END;
                return;
            }
            int sign = signAt(at);
            if (sign >= 'a' && sign <= 'z') {
                takeWord();
            } else if (sign >= '0' && sign <= '9') {
                takeNumber();
            } else {
                takeSign((char) sign);
            }
        }

        private void takeWord() {
            int letters = 0;
            while (at < length && signAt(at) >= 'a' && signAt(at) <= 'z') {
                int many = at - place;
                if (many < MOST_LETTERS) {
                    letters |= (signAt(at) - 'a' + 1) << (5 * (MOST_LETTERS - 1 - many));
                }
                at++;
            }
            if (at - place > MOST_LETTERS) {
                kind = T_BAD;
                return;
            }
            kind = T_NAME;
            value = letters;
            for (int word = 0; word < WORD_COUNT; word++) {
                if (words[word] == letters) {
                    kind = T_MAN + word;
                }
            }
        }

        private void takeNumber() {
            kind = T_NUMBER;
            while (at < length && signAt(at) >= '0' && signAt(at) <= '9') {
                value = Math.min(1000000, value * 10 + signAt(at) - '0');
                at++;
            }
        }

        private void takeSign(char sign) {
            int behind = signAt(at + 1);
            at++;
            if (sign == '<') {
                kind = behind == '=' ? T_LESS_SAME : behind == '>' ? T_OTHER : T_LESS;
            } else if (sign == '>') {
                kind = behind == '=' ? T_MORE_SAME : T_MORE;
            } else {
                int index = SIGNS.indexOf(sign);
                kind = index < 0 ? T_BAD : T_SEMICOLON + index;
            }
            if (kind == T_LESS_SAME || kind == T_OTHER || kind == T_MORE_SAME) {
                at++;
            }
        }
    }

    /** Reads a text into a script, up to its first fault. */
    private static final class Reader {
        int faultKind;
        int faultPlace = NONE;
        int linesRead;
        private Script script = new Script();
        private final Tokens tokens = new Tokens();
        /** Signs that wait for what stands behind them; '(' among them. */
        private final int[] waiting = new int[MOST_KNOTS + MOST_OPEN];
        private int waits;
        private int open;

        boolean read(byte[] text, int n) {
            script.wipe();
            faultKind = 0;
            faultPlace = NONE;
            linesRead = 0;
            tokens.start(text, n);
            for (int i = 0; i <= MOST_BYTES && tokens.kind != T_END; i++) {
                if (!readLine()) {
                    return false;
                }
                linesRead++;
            }
            return true;
        }

        /** What was read, for a script that the next text may be read into. */
        Script handOver(Script spare) {
            Script ready = script;
            script = spare;
            return ready;
        }

        private boolean wrong(int kind) {
            faultKind = kind;
            faultPlace = tokens.place;
            return false;
        }

        private boolean readLine() {
            boolean isFine;
            switch (tokens.kind) {
                case T_MAN: isFine = readMan(); break;
                case T_TONE: isFine = readTone(); break;
                case T_PRICE: isFine = readPrice(); break;
                case T_RING: isFine = readRing(); break;
                case T_LINES: isFine = readLines(); break;
                case T_TRIES: isFine = readTries(); break;
                case T_SEED: isFine = readSeed(); break;
                case T_LAW: isFine = readLaw(); break;
                default: isFine = wrong(FAULT_STRAY); break;
            }
            if (!isFine) {
                return false;
            }
            if (tokens.kind != T_SEMICOLON) {
                return wrong(FAULT_STRAY);
            }
            tokens.next();
            return true;
        }

        private boolean readMan() {
            if (script.people >= MOST_PEOPLE) {
                return wrong(FAULT_MUCH);
            }
            tokens.next();
            if (tokens.kind != T_NAME) {
                return wrong(FAULT_STRAY);
            }
            int letters = tokens.value;
            if (script.personNamed(letters) != NONE) {
                return wrong(FAULT_TOLD);
            }
            tokens.next();
            int vain = number(0, 99);
            int purse = vain == NONE ? NONE : number(0, 999);
            if (purse == NONE) {
                return false;
            }
            script.name[script.people] = letters;
            script.vain[script.people] = vain;
            script.first.purse[script.people] = purse;
            script.people++;
            return true;
        }

        private boolean readTone() {
            if (script.first.tones >= MOST_TONES) {
                return wrong(FAULT_MUCH);
            }
            tokens.next();
            int man = person();
            int from = man == NONE ? NONE : number(0, 99);
            int many = from == NONE ? NONE : number(1, MOST_SPAN);
            if (many == NONE) {
                return false;
            }
            script.first.addTone(man, from, many);
            return true;
        }

        private boolean readPrice() {
            if (script.prices >= MOST_PRICES) {
                return wrong(FAULT_MUCH);
            }
            tokens.next();
            int from = number(0, 99);
            int pence = from == NONE ? NONE : number(0, 99);
            if (pence == NONE) {
                return false;
            }
            script.priceFrom[script.prices] = from;
            script.pricePence[script.prices] = pence;
            script.prices++;
            return true;
        }

        private boolean readRing() {
            if (script.first.rings >= MOST_RINGS) {
                return wrong(FAULT_MUCH);
            }
            tokens.next();
            int from = person();
            if (from == NONE) {
                return false;
            }
            if (tokens.kind == T_NAME && script.personNamed(tokens.value) == from) {
                return wrong(FAULT_ONESELF);
            }
            int to = person();
            int due = to == NONE ? NONE : number(0, 99);
            int many = due == NONE ? NONE : number(1, 9);
            if (many == NONE) {
                return false;
            }
            script.first.addRing(from, to, due, many);
            return true;
        }

        private boolean readLines() {
            if (script.lines != NONE) {
                return wrong(FAULT_TOLD);
            }
            tokens.next();
            script.lines = number(1, MOST_LINES);
            return script.lines != NONE;
        }

        private boolean readTries() {
            if (script.tries != NONE) {
                return wrong(FAULT_TOLD);
            }
            tokens.next();
            script.tries = number(1, MOST_TRIES);
            return script.tries != NONE;
        }

        private boolean readSeed() {
            if (script.seed != NONE) {
                return wrong(FAULT_TOLD);
            }
            tokens.next();
            script.seed = number(0, 99999);
            return script.seed != NONE;
        }

        /** The number that stands here, taken; NONE with a fault. */
        private int number(int least, int most) {
            if (tokens.kind != T_NUMBER) {
                wrong(FAULT_STRAY);
                return NONE;
            }
            if (tokens.value < least || tokens.value > most) {
                wrong(FAULT_MUCH);
                return NONE;
            }
            int value = tokens.value;
            tokens.next();
            return value;
        }

        /** The person whose name stands here, taken; NONE with a fault. */
        private int person() {
            if (tokens.kind != T_NAME) {
                wrong(FAULT_STRAY);
                return NONE;
            }
            int man = script.personNamed(tokens.value);
            if (man == NONE) {
                wrong(FAULT_UNKNOWN);
                return NONE;
            }
            tokens.next();
            return man;
        }

        private boolean readLaw() {
            tokens.next();
            if (tokens.kind < T_AGAIN || tokens.kind > T_DEAR) {
                return wrong(FAULT_STRAY);
            }
            int law = tokens.kind - T_AGAIN;
            if (script.laws.isTold(law)) {
                return wrong(FAULT_TOLD);
            }
            tokens.next();
            int start = script.laws.writtenSoFar();
            waits = 0;
            open = 0;
            // Each round takes one value and what stands behind it up to the next one.
            for (int i = 0; i <= MOST_BYTES; i++) {
                if (!readValue()) {
                    return false;
                }
                readClosings();
                if (rankOf(tokens.kind) == RANK_OPEN || tokens.kind == T_NOT) {
                    break;
                }
                if (!readJoin()) {
                    return false;
                }
            }
            if (open > 0) {
                return wrong(FAULT_STRAY);
            }
            writeDownTo(RANK_OPEN);
            script.laws.close(law, start);
            return true;
        }

        /** A number or a name, with what may stand ahead of it: '(' and not. */
        private boolean readValue() {
            for (int i = 0; i <= MOST_BYTES && (tokens.kind == T_OPEN || tokens.kind == T_NOT); i++) {
                if (tokens.kind == T_OPEN ? !readOpening() : !readNot()) {
                    return false;
                }
                tokens.next();
            }
            boolean isNumber = tokens.kind == T_NUMBER;
            if (!isNumber && (tokens.kind < T_TURN || tokens.kind > T_TIME)) {
                return wrong(FAULT_STRAY);
            }
            if (isNumber && tokens.value > 9999) {
                return wrong(FAULT_MUCH);
            }
            if (!countKnot()) {
                return false;
            }
            script.laws.write(tokens.kind, tokens.value);
            tokens.next();
            return true;
        }

        private boolean readOpening() {
            if (open >= MOST_OPEN) {
                return wrong(FAULT_MUCH);
            }
            open++;
            return await(T_OPEN);
        }

        /** A not stands only where a B may: never behind a sign that joins values. */
        private boolean readNot() {
            if (rankOfLast() > RANK_NOT) {
                return wrong(FAULT_STRAY);
            }
            return countKnot() && await(T_NOT);
        }

        private void readClosings() {
            for (int i = 0; i <= MOST_BYTES && tokens.kind == T_CLOSE && open > 0; i++) {
                writeDownTo(RANK_OPEN);
                waits = Math.max(0, waits - 1);
                open--;
                tokens.next();
            }
        }

        private boolean readJoin() {
            int rank = rankOf(tokens.kind);
            if (rank == RANK_COMPARE) {
                writeDownTo(RANK_COMPARE);
                if (rankOfLast() == RANK_COMPARE) {
                    return wrong(FAULT_STRAY);
                }
            } else {
                writeDownTo(rank - 1);
            }
            if (!countKnot() || !await(tokens.kind)) {
                return false;
            }
            tokens.next();
            return true;
        }

        /** The signs that wait and bind closer than this rank are written, the last first. */
        private void writeDownTo(int rank) {
            for (int i = 0; i < waiting.length && rankOfLast() > rank; i++) {
                waits--;
                script.laws.write(waiting[waits], 0);
            }
        }

        private int rankOfLast() {
            return waits > 0 && waits <= waiting.length ? rankOf(waiting[waits - 1]) : RANK_OPEN;
        }

        private boolean await(int kind) {
            if (waits >= waiting.length) {
                return wrong(FAULT_MUCH);
            }
            waiting[waits] = kind;
            waits++;
            return true;
        }

        private boolean countKnot() {
            if (script.laws.knots >= MOST_KNOTS) {
                return wrong(FAULT_MUCH);
            }
            script.laws.knots++;
            return true;
        }

        /** How close a sign binds; RANK_OPEN for what joins nothing. */
        private static int rankOf(int kind) {
            switch (kind) {
                case T_OR: return RANK_OR;
                case T_AND: return RANK_AND;
                case T_NOT: return RANK_NOT;
                case T_LESS: case T_LESS_SAME: case T_SAME: case T_OTHER: case T_MORE: case T_MORE_SAME:
                    return RANK_COMPARE;
                case T_PLUS: case T_MINUS: return RANK_SUM;
                case T_TIMES: case T_BY: return RANK_PRODUCT;
                default: return RANK_OPEN;
            }
        }
    }
}
