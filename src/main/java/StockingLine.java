import java.util.Arrays;

public final class StockingLine {
    public static final int NONE = -1, UNKNOWN = -101, OUTSIDE = -102, STATE = -103, FULL = -104;

    private static final int MOST_LETTERS = 52;
    private static final int MOST_KINGS = 4;
    private static final int MOST_STOCKINGS = 6;
    private static final int FEWEST = 2;
    private static final int PEGS = 10;
    private static final int CALVES = 10;
    private static final int STARCHES = 5;
    private static final int STRONGEST_WIND = 9;
    private static final int MOST_WRONG = 3;
    private static final int MOST_WASHES = 99;
    private static final int MOST_MATCHES = 20;
    private static final int MOST_LIES = 6;
    private static final int MOST_TRIED = 8;
    private static final int MOST_YEARS = 60;
    private static final int ALREADY = 100;
    private static final int DARNING = 9;
    private static final int[] ACTS = {0, 1, 2, 3, 4, DARNING};

    // Each row has one number for every KIND, in their order: KING, LAME, YOUNG, BISHOP, REGENT.
    private static final String KIND_LETTERS = "klybr";
    private static final int KINDS = 5;
    private static final int YOUNG = 2;
    private static final int REGENT = 4;
    private static final int[] CALF_LESS = {0, 0, 2, 0, 2};
    private static final int[] OTHER_STARCH = {2, 2, 2, 0, 2};
    private static final int[] OTHER_KNITTER = {3, 3, 3, 3, 0};
    private static final int[] WHOLE_HEEL = {0, 2, 0, 0, 0};
    private static final int[] WORN_HEEL = {1, 0, 1, 1, 1};

    // All numbers that a PAIR can have, from the least on, as MATCH wants them tried.
    private static final int[] PAIRS = {1, 2, 3, 4, 5, 12, 13, 14, 15, 23, 24, 25, 34, 35, 45};

    private final Page page;
    private final Court court;
    private final Rope rope;
    private final Rope keptRope;
    private final Rope supposed;
    private final Notes notes;
    private final Notes keptNotes;
    private final Wedding wedding;
    private final Kennel kennel;
    private final int[] partners;
    private boolean imageKept;
    private int linesRead;
    private int matchesDone;

    public StockingLine() {
        page = new Page();
        court = new Court();
        rope = new Rope();
        keptRope = new Rope();
        supposed = new Rope();
        notes = new Notes();
        keptNotes = new Notes();
        wedding = new Wedding();
        kennel = new Kennel();
        partners = new int[MOST_STOCKINGS];
    }

    // ---- the line

    public int letter(int code) {
        if (code < 32 || code > 126) {
            return OUTSIDE;
        }
        if (page.length >= MOST_LETTERS) {
            return FULL;
        }
        page.letters[page.length] = code;
        page.length++;
        return page.length;
    }

    public int blank() {
        int had = page.length;
        page.length = 0;
        return had;
    }

    public int fault() {
        return page.firstFault();
    }

    public int line() {
        int kings = page.kingsOfLine();
        if (kings == 0) {
            return STATE;
        }
        court.readFrom(page, kings);
        rope.readFrom(page, kings);
        notes.clear();
        page.length = 0;
        imageKept = false;
        linesRead++;
        return rope.count;
    }

    // ---- kings, stockings

    public int king(int king, int what) {
        if (noKing(king)) {
            return UNKNOWN;
        }
        switch (what) {
            case 0: return court.kind[king];
            case 1: return court.calf[king];
            case 2: return court.starch[king];
            case 3: return court.knitter[king];
            case 4: return court.mayBeHis(king, rope);
            case 5: return court.pairsOf(king, rope);
            case 6: return court.bestPair(king, rope);
            case 7: return wrongOfBest(king);
            case 8: return calvesOf(king);
            case 9: return bestToTry(king);
            default: return OUTSIDE;
        }
    }

    public int as(int king, int kind) {
        if (noKing(king)) {
            return UNKNOWN;
        }
        if (kind < 0 || kind >= KINDS) {
            return OUTSIDE;
        }
        int own = court.kind[king];
        boolean such = kind == 0 || kind == own || (kind == YOUNG && own == REGENT);
        return such ? king : NONE;
    }

    public int stocking(int stocking, int what) {
        if (noStocking(stocking)) {
            return UNKNOWN;
        }
        switch (what) {
            case 0: return rope.size[stocking];
            case 1: return rope.starch[stocking];
            case 2: return rope.knitter[stocking];
            case 3: return rope.heel[stocking];
            case 4: return rope.peg[stocking];
            case 5: return court.whoseMayBe(rope, stocking);
            case 6: return court.leastWrongFor(rope, stocking);
            case 7: return rope.matesOf(stocking);
            default: return OUTSIDE;
        }
    }

    public int wrong(int king, int stocking) {
        if (noKing(king) || noStocking(stocking)) {
            return UNKNOWN;
        }
        return court.wrongness(king, rope, stocking);
    }

    public int peg(int peg) {
        if (noLine() || noPeg(peg)) {
            return UNKNOWN;
        }
        return rope.hangingAt(peg);
    }

    // ---- what is done

    public int wash() {
        if (noLine()) {
            return STATE;
        }
        if (notes.washes >= MOST_WASHES) {
            return FULL;
        }
        rope.shrink();
        notes.washes++;
        notes.changes++;
        return Integer.bitCount(rope.hanging());
    }

    public int starch(int stocking, int starch) {
        if (noStocking(stocking)) {
            return UNKNOWN;
        }
        if (starch < 0 || starch >= STARCHES) {
            return OUTSIDE;
        }
        int had = rope.starch[stocking];
        rope.starch[stocking] = starch;
        notes.changes++;
        return had;
    }

    public int darn(int stocking) {
        if (noStocking(stocking)) {
            return UNKNOWN;
        }
        int had = rope.heel[stocking];
        rope.heel[stocking] = 0;
        notes.changes++;
        return had;
    }

    public int wind(int by) {
        if (by < -STRONGEST_WIND || by > STRONGEST_WIND) {
            return OUTSIDE;
        }
        if (noLine()) {
            return STATE;
        }
        int hung = Integer.bitCount(rope.hanging());
        rope.blow(by);
        notes.changes++;
        return hung - Integer.bitCount(rope.hanging());
    }

    public int pin(int stocking, int peg) {
        if (noStocking(stocking) || noPeg(peg)) {
            return UNKNOWN;
        }
        if (rope.hangingAt(peg) != NONE) {
            return STATE;
        }
        int was = rope.peg[stocking];
        rope.peg[stocking] = peg;
        notes.changes++;
        return was;
    }

    public int drop(int stocking) {
        if (noStocking(stocking)) {
            return UNKNOWN;
        }
        int was = rope.peg[stocking];
        if (was == NONE) {
            return STATE;
        }
        rope.peg[stocking] = NONE;
        notes.changes++;
        return was;
    }

    // ---- the throne

    public int throne(int what) {
        if (what < 0 || what > 2) {
            return OUTSIDE;
        }
        if (noLine()) {
            return STATE;
        }
        int heirs = court.heirs(rope);
        if (what == 2) {
            return heirs;
        }
        int many = Integer.bitCount(heirs);
        if (what == 0) {
            return Math.min(many, 2);
        }
        return many == 1 ? court.firstOf(heirs) : NONE;
    }

    public int match(int what) {
        boolean ofKing = what >= 10 && what < 10 + MOST_KINGS;
        if (what != 0 && what != 1 && !ofKing) {
            return OUTSIDE;
        }
        if (noLine() || matchesDone >= MOST_MATCHES) {
            return STATE;
        }
        matchesDone++;
        wedding.arrange(court, rope);
        if (ofKing) {
            return wedding.best[what - 10];
        }
        return what == 0 ? wedding.bestMany : wedding.bestWrong;
    }

    public int chance(int king, int what) {
        if (noKing(king)) {
            return UNKNOWN;
        }
        if (what != 0 && what != 1) {
            return OUTSIDE;
        }
        int hung = Integer.bitCount(rope.hanging());
        if (hung < 2) {
            return what == 0 ? 0 : 1;
        }
        int his = court.pairsOf(king, rope);
        int all = hung * (hung - 1) / 2;
        return (what == 0 ? his : all) / commonDivisor(his, all);
    }

    public int dog(int what) {
        if (what != 0 && what != 1) {
            return OUTSIDE;
        }
        if (noLine()) {
            return STATE;
        }
        int suspects = rope.hanging();
        kennel.learn(court, rope);
        return what == 0 ? kennel.fewest[suspects] : kennel.firstKing(suspects);
    }

    public int coup(int king) {
        if (noKing(king)) {
            return UNKNOWN;
        }
        if (court.isHeirAlone(king, rope)) {
            return ALREADY;
        }
        supposed.copyFrom(rope);
        for (int stocking = 0; stocking < rope.count; stocking++) {
            int act = rope.hangs(stocking) ? leastActOn(stocking, king) : NONE;
            if (act != NONE) {
                return 10 * stocking + act;
            }
        }
        return NONE;
    }

    public int fold() {
        if (noLine()) {
            return STATE;
        }
        findPartners();
        int hanging = rope.hanging();
        int best = hanging;
        for (int off = 0; off < hanging; off++) {
            boolean fewer = Integer.bitCount(off) < Integer.bitCount(best);
            if (fewer && (off & ~hanging) == 0 && leavesNoPair(off)) {
                best = off;
            }
        }
        return best;
    }

    // ---- how the wind went

    public int lies(int stocking, int peg) {
        if (noStocking(stocking)) {
            return UNKNOWN;
        }
        if (peg != NONE && noPeg(peg)) {
            return OUTSIDE;
        }
        if (notes.lies >= MOST_LIES) {
            return FULL;
        }
        notes.addLie(stocking, peg);
        return notes.lies;
    }

    public int sweep() {
        int had = notes.lies;
        notes.lies = 0;
        return had;
    }

    public int winds(int what) {
        if (what < 0 || what > 3) {
            return OUTSIDE;
        }
        if (noLine()) {
            return STATE;
        }
        switch (what) {
            case 0: return countWinds();
            case 1: return leastWind();
            case 2: return greatestWind();
            default: return bestToAsk();
        }
    }

    // ---- how wide a calf is

    public int tryOn(int king, int stocking, boolean may) {
        if (noKing(king) || noStocking(stocking)) {
            return UNKNOWN;
        }
        if (notes.tried >= MOST_TRIED) {
            return FULL;
        }
        notes.addTried(king, stocking, may);
        return notes.tried;
    }

    public int forget() {
        int had = notes.tried;
        notes.tried = 0;
        return had;
    }

    public int years(int years, int seed, int what) {
        boolean told = years >= 1 && years <= MOST_YEARS && seed >= 0 && what >= 0 && what <= 2;
        if (!told) {
            return OUTSIDE;
        }
        if (noLine()) {
            return STATE;
        }
        supposed.copyFrom(rope);
        int settled = 0;
        int drawn = seed;
        for (int year = 0; year < years; year++) {
            drawn = nextSeed(drawn);
            supposed.blow(drawn / 65536 % 5 - 2);
            supposed.shrink();
            if (Integer.bitCount(court.heirs(supposed)) == 1) {
                settled++;
            }
        }
        switch (what) {
            case 0: return settled;
            case 1: return Integer.bitCount(supposed.hanging());
            default: return drawn;
        }
    }

    // ---- what is told of all

    public int image() {
        if (noLine()) {
            return STATE;
        }
        keptRope.copyFrom(rope);
        keptNotes.copyFrom(notes);
        imageKept = true;
        return notes.changes;
    }

    public int restore() {
        if (!imageKept) {
            return STATE;
        }
        rope.copyFrom(keptRope);
        notes.copyFrom(keptNotes);
        return notes.changes;
    }

    public int count(int what) {
        switch (what) {
            case 0: return court.count;
            case 1: return rope.count;
            case 2: return Integer.bitCount(rope.hanging());
            case 3: return rope.allSizes();
            case 4: return rope.matchingTwos();
            case 5: return Integer.bitCount(court.heirs(rope));
            case 6: return notes.changes;
            case 7: return notes.washes;
            case 8: return notes.lies;
            case 9: return notes.tried;
            case 10: return page.length;
            case 11: return linesRead;
            case 12: return matchesDone;
            default: return OUTSIDE;
        }
    }

    public long digest() {
        long h = 1097;
        for (int king = 0; king < court.count; king++) {
            for (int what = 0; what <= 9; what++) {
                h = 31 * h + king(king, what);
            }
            h = 31 * h + chance(king, 0);
            h = 31 * h + chance(king, 1);
            h = 31 * h + coup(king);
        }
        for (int stocking = 0; stocking < rope.count; stocking++) {
            for (int what = 0; what <= 7; what++) {
                h = 31 * h + stocking(stocking, what);
            }
            for (int king = 0; king < court.count; king++) {
                h = 31 * h + wrong(king, stocking);
            }
        }
        if (!noLine()) {
            h = withThrone(h);
        }
        for (int place = 0; place < page.length; place++) {
            h = 31 * h + page.letters[place];
        }
        for (int what = 0; what <= 12; what++) {
            h = 31 * h + count(what);
        }
        return h;
    }

    private long withThrone(long before) {
        long h = before;
        for (int what = 0; what <= 2; what++) {
            h = 31 * h + throne(what);
        }
        h = 31 * h + dog(0);
        h = 31 * h + dog(1);
        h = 31 * h + fold();
        for (int what = 0; what <= 3; what++) {
            h = 31 * h + winds(what);
        }
        return h;
    }

    private boolean noLine() {
        return rope.count == 0;
    }

    private boolean noKing(int king) {
        return king < 0 || king >= court.count;
    }

    private boolean noStocking(int stocking) {
        return stocking < 0 || stocking >= rope.count;
    }

    private static boolean noPeg(int peg) {
        return peg < 0 || peg >= PEGS;
    }

    private static boolean has(int bits, int number) {
        return (bits >> number & 1) == 1;
    }

    private static int commonDivisor(int some, int all) {
        for (int divisor = all; divisor > 1; divisor--) {
            if (some % divisor == 0 && all % divisor == 0) {
                return divisor;
            }
        }
        return 1;
    }

    private static int nextSeed(int seed) {
        return (int) ((1103515245L * seed + 12345L) % 2147483648L);
    }

    private int wrongOfBest(int king) {
        int pair = court.bestPair(king, rope);
        return pair == NONE ? NONE : court.wrongnessOfPair(king, rope, pair);
    }

    private int leastActOn(int stocking, int king) {
        for (int act : ACTS) {
            boolean darned = act == DARNING;
            supposed.starch[stocking] = darned ? rope.starch[stocking] : act;
            supposed.heel[stocking] = darned ? 0 : rope.heel[stocking];
            if (court.isHeirAlone(king, supposed)) {
                return act;
            }
        }
        supposed.heel[stocking] = rope.heel[stocking];
        return NONE;
    }

    private void findPartners() {
        Arrays.fill(partners, 0);
        for (int king = 0; king < court.count; king++) {
            int his = court.mayBeHis(king, rope);
            for (int pair : PAIRS) {
                if (Court.isPairWithin(his, rope, pair)) {
                    partners[pair / 10] |= 1 << pair % 10;
                }
            }
        }
    }

    private boolean leavesNoPair(int off) {
        for (int stocking = 0; stocking < rope.count; stocking++) {
            if (!has(off, stocking) && (partners[stocking] & ~off) != 0) {
                return false;
            }
        }
        return true;
    }

    private boolean canHaveBlown(int by) {
        for (int lie = 0; lie < notes.lies; lie++) {
            if (rope.pegBehind(notes.lieStocking[lie], by) != notes.liePeg[lie]) {
                return false;
            }
        }
        return true;
    }

    private int countWinds() {
        int many = 0;
        for (int by = -STRONGEST_WIND; by <= STRONGEST_WIND; by++) {
            if (canHaveBlown(by)) {
                many++;
            }
        }
        return many;
    }

    private int leastWind() {
        for (int by = -STRONGEST_WIND; by <= STRONGEST_WIND; by++) {
            if (canHaveBlown(by)) {
                return by;
            }
        }
        return 0;
    }

    private int greatestWind() {
        for (int by = STRONGEST_WIND; by >= -STRONGEST_WIND; by--) {
            if (canHaveBlown(by)) {
                return by;
            }
        }
        return 0;
    }

    private int bestToAsk() {
        int best = NONE;
        int fewest = countWinds();
        if (fewest == 0) {
            return NONE;
        }
        for (int stocking = 0; stocking < rope.count; stocking++) {
            int left = windsLeftAtWorst(stocking);
            if (best == NONE || left < fewest) {
                best = stocking;
                fewest = left;
            }
        }
        return best;
    }

    // No two WINDS bring a STOCKING to the same PEG, so only that it is OFF can leave more than one.
    private int windsLeftAtWorst(int stocking) {
        int off = 0;
        for (int by = -STRONGEST_WIND; by <= STRONGEST_WIND; by++) {
            if (rope.pegBehind(stocking, by) == NONE && canHaveBlown(by)) {
                off++;
            }
        }
        return Math.max(off, 1);
    }

    private int calvesOf(int king) {
        int calves = (1 << CALVES) - 1;
        for (int trial = 0; trial < notes.tried; trial++) {
            if (notes.triedKing[trial] == king) {
                int fitting = court.calvesFitting(king, rope, notes.triedStocking[trial]);
                calves &= notes.triedMay[trial] ? fitting : ~fitting;
            }
        }
        return calves;
    }

    private int bestToTry(int king) {
        int calves = calvesOf(king);
        if (calves == 0) {
            return NONE;
        }
        int best = NONE;
        int fewest = CALVES + 1;
        for (int stocking = 0; stocking < rope.count; stocking++) {
            int fitting = court.calvesFitting(king, rope, stocking);
            int left = Math.max(Integer.bitCount(calves & fitting), Integer.bitCount(calves & ~fitting));
            if (left < fewest) {
                best = stocking;
                fewest = left;
            }
        }
        return best;
    }

    /** THE PAGE. Every KING and every STOCKING has four letters and one behind them, so places go by fives. */
    private static final class Page {
        static final int STEP = 5;

        final int[] letters = new int[MOST_LETTERS];
        int length;

        int firstFault() {
            int kings = 0;
            for (int place = 0; place < length; place++) {
                int letter = letters[place];
                if (!fits(place, letter, kings)) {
                    return place;
                }
                if (letter == ';') {
                    kings = place / STEP + 1;
                }
            }
            return length;
        }

        /** How many KINGS the LINE has that stands here; 0, if it is none. */
        int kingsOfLine() {
            if (length % STEP != STEP - 1 || firstFault() != length) {
                return 0;
            }
            int kings = 0;
            for (int place = STEP - 1; place < length; place += STEP) {
                if (letters[place] == ';') {
                    kings = place / STEP + 1;
                }
            }
            return kings > 0 && items() - kings >= FEWEST ? kings : 0;
        }

        /** How many KINGS and STOCKINGS stand here whole. */
        int items() {
            return (length + 1) / STEP;
        }

        int digitOf(int item, int column) {
            int place = item * STEP + column;
            return place < length ? letters[place] - '0' : 0;
        }

        int kindOf(int king) {
            int place = king * STEP;
            return place < length ? KIND_LETTERS.indexOf((char) letters[place]) : 0;
        }

        /** kings is 0, while the ";" is still to come. */
        private static boolean fits(int place, int letter, int kings) {
            int item = place / STEP - kings;
            int column = place % STEP;
            if (column == STEP - 1) {
                return kings == 0 ? fitsBehindKing(item + 1, letter) : fitsBehindStocking(item + 1, letter);
            }
            return kings == 0 ? fitsInKing(column, letter) : fitsInStocking(column, letter);
        }

        private static boolean fitsBehindKing(int kings, int letter) {
            return letter == ',' ? kings < MOST_KINGS : letter == ';' && kings >= FEWEST;
        }

        private static boolean fitsBehindStocking(int stockings, int letter) {
            return letter == ',' && stockings < MOST_STOCKINGS;
        }

        private static boolean fitsInKing(int column, int letter) {
            switch (column) {
                case 0: return KIND_LETTERS.indexOf((char) letter) >= 0;
                case 1: return isDigitTo('9', letter);
                case 2: return isDigitTo('4', letter);
                default: return isDigitTo('3', letter);
            }
        }

        private static boolean fitsInStocking(int column, int letter) {
            switch (column) {
                case 0: return isDigitTo('9', letter);
                case 1: return isDigitTo('4', letter);
                case 2: return isDigitTo('3', letter);
                default: return isDigitTo('1', letter);
            }
        }

        private static boolean isDigitTo(int last, int letter) {
            return letter >= '0' && letter <= last;
        }
    }

    /** The STOCKINGS, and where they hang; those that the LINE has not are OFF. */
    private static final class Rope {
        final int[] size = new int[MOST_STOCKINGS];
        final int[] starch = new int[MOST_STOCKINGS];
        final int[] knitter = new int[MOST_STOCKINGS];
        final int[] heel = new int[MOST_STOCKINGS];
        final int[] peg = new int[MOST_STOCKINGS];
        int count;

        Rope() {
            Arrays.fill(peg, NONE);
        }

        void readFrom(Page page, int kings) {
            count = Math.min(page.items() - kings, MOST_STOCKINGS);
            for (int stocking = 0; stocking < MOST_STOCKINGS; stocking++) {
                int item = kings + stocking;
                size[stocking] = page.digitOf(item, 0);
                starch[stocking] = page.digitOf(item, 1);
                knitter[stocking] = page.digitOf(item, 2);
                heel[stocking] = page.digitOf(item, 3);
                peg[stocking] = stocking < count ? stocking : NONE;
            }
        }

        void copyFrom(Rope other) {
            System.arraycopy(other.size, 0, size, 0, MOST_STOCKINGS);
            System.arraycopy(other.starch, 0, starch, 0, MOST_STOCKINGS);
            System.arraycopy(other.knitter, 0, knitter, 0, MOST_STOCKINGS);
            System.arraycopy(other.heel, 0, heel, 0, MOST_STOCKINGS);
            System.arraycopy(other.peg, 0, peg, 0, MOST_STOCKINGS);
            count = other.count;
        }

        boolean hangs(int stocking) {
            return peg[stocking] != NONE;
        }

        /** Which hang, as bits. */
        int hanging() {
            int bits = 0;
            for (int stocking = 0; stocking < count; stocking++) {
                if (hangs(stocking)) {
                    bits |= 1 << stocking;
                }
            }
            return bits;
        }

        int hangingAt(int place) {
            for (int stocking = 0; stocking < count; stocking++) {
                if (peg[stocking] == place) {
                    return stocking;
                }
            }
            return NONE;
        }

        int allSizes() {
            int all = 0;
            for (int stocking = 0; stocking < count; stocking++) {
                all += size[stocking];
            }
            return all;
        }

        void shrink() {
            for (int stocking = 0; stocking < count; stocking++) {
                if (hangs(stocking) && knitter[stocking] != 0) {
                    size[stocking] = Math.max(size[stocking] - 1, 0);
                }
            }
        }

        void blow(int by) {
            for (int stocking = 0; stocking < count; stocking++) {
                peg[stocking] = pegBehind(stocking, by);
            }
        }

        /** Where it hangs behind a WIND. */
        int pegBehind(int stocking, int by) {
            int then = peg[stocking] + by;
            return !hangs(stocking) || noPeg(then) ? NONE : then;
        }

        boolean twoMatch(int one, int other) {
            int apart = size[one] - size[other];
            return hangs(one) && hangs(other)
                && starch[one] == starch[other]
                && knitter[one] == knitter[other]
                && apart >= -1 && apart <= 1;
        }

        int matesOf(int stocking) {
            int bits = 0;
            for (int other = 0; other < count; other++) {
                if (other != stocking && twoMatch(stocking, other)) {
                    bits |= 1 << other;
                }
            }
            return bits;
        }

        int matchingTwos() {
            int many = 0;
            for (int pair : PAIRS) {
                if (twoMatch(pair / 10, pair % 10)) {
                    many++;
                }
            }
            return many;
        }
    }

    /** The KINGS, and what is theirs of a rope. */
    private static final class Court {
        final int[] kind = new int[MOST_KINGS];
        final int[] calf = new int[MOST_KINGS];
        final int[] starch = new int[MOST_KINGS];
        final int[] knitter = new int[MOST_KINGS];
        int count;

        void readFrom(Page page, int kings) {
            count = Math.min(kings, MOST_KINGS);
            for (int king = 0; king < count; king++) {
                kind[king] = Math.max(page.kindOf(king), 0);
                calf[king] = page.digitOf(king, 1);
                starch[king] = page.digitOf(king, 2);
                knitter[king] = page.digitOf(king, 3);
            }
        }

        int wrongness(int king, Rope rope, int stocking) {
            return wrongnessAt(calf[king], king, rope, stocking);
        }

        /** How WRONG it would be, if his CALF was this wide. */
        private int wrongnessAt(int width, int king, Rope rope, int stocking) {
            int own = kind[king];
            int wrong = Math.abs(Math.max(width - CALF_LESS[own], 0) - rope.size[stocking]);
            if (starch[king] != rope.starch[stocking]) {
                wrong += OTHER_STARCH[own];
            }
            if (knitter[king] != rope.knitter[stocking]) {
                wrong += OTHER_KNITTER[own];
            }
            return wrong + (rope.heel[stocking] == 1 ? WORN_HEEL[own] : WHOLE_HEEL[own]);
        }

        int wrongnessOfPair(int king, Rope rope, int pair) {
            int width = calf[king];
            return wrongnessAt(width, king, rope, pair / 10) + wrongnessAt(width, king, rope, pair % 10);
        }

        /** Which STOCKINGS MAY BE his, as bits. */
        int mayBeHis(int king, Rope rope) {
            int bits = 0;
            for (int stocking = 0; stocking < rope.count; stocking++) {
                if (wrongnessAt(calf[king], king, rope, stocking) <= MOST_WRONG) {
                    bits |= 1 << stocking;
                }
            }
            return bits;
        }

        int whoseMayBe(Rope rope, int stocking) {
            int bits = 0;
            for (int king = 0; king < count; king++) {
                if (wrongness(king, rope, stocking) <= MOST_WRONG) {
                    bits |= 1 << king;
                }
            }
            return bits;
        }

        int leastWrongFor(Rope rope, int stocking) {
            int best = 0;
            for (int king = 1; king < count; king++) {
                if (wrongness(king, rope, stocking) < wrongness(best, rope, stocking)) {
                    best = king;
                }
            }
            return best;
        }

        /** For which CALVES of his the STOCKING MAY BE his, as bits. */
        int calvesFitting(int king, Rope rope, int stocking) {
            int bits = 0;
            for (int width = 0; width < CALVES; width++) {
                if (wrongnessAt(width, king, rope, stocking) <= MOST_WRONG) {
                    bits |= 1 << width;
                }
            }
            return bits;
        }

        int pairsOf(int king, Rope rope) {
            int his = mayBeHis(king, rope);
            int many = 0;
            for (int pair : PAIRS) {
                if (isPairWithin(his, rope, pair)) {
                    many++;
                }
            }
            return many;
        }

        int bestPair(int king, Rope rope) {
            int his = mayBeHis(king, rope);
            int best = NONE;
            for (int pair : PAIRS) {
                boolean better = isPairWithin(his, rope, pair) && (best == NONE
                    || wrongnessOfPair(king, rope, pair) < wrongnessOfPair(king, rope, best));
                if (better) {
                    best = pair;
                }
            }
            return best;
        }

        /** Who has a PAIR, as bits. */
        int heirs(Rope rope) {
            int bits = 0;
            for (int king = 0; king < count; king++) {
                if (hasPair(king, rope)) {
                    bits |= 1 << king;
                }
            }
            return bits;
        }

        int firstOf(int kings) {
            for (int king = 0; king < count; king++) {
                if (has(kings, king)) {
                    return king;
                }
            }
            return NONE;
        }

        boolean isHeirAlone(int king, Rope rope) {
            if (!hasPair(king, rope)) {
                return false;
            }
            for (int other = 0; other < count; other++) {
                if (other != king && hasPair(other, rope)) {
                    return false;
                }
            }
            return true;
        }

        private boolean hasPair(int king, Rope rope) {
            int his = mayBeHis(king, rope);
            for (int pair : PAIRS) {
                if (isPairWithin(his, rope, pair)) {
                    return true;
                }
            }
            return false;
        }

        static boolean isPairWithin(int his, Rope rope, int pair) {
            int lesser = pair / 10;
            int greater = pair % 10;
            return has(his, lesser) && has(his, greater) && rope.twoMatch(lesser, greater);
        }
    }

    /** What is counted and told since the LINE was read. */
    private static final class Notes {
        final int[] lieStocking = new int[MOST_LIES];
        final int[] liePeg = new int[MOST_LIES];
        final int[] triedKing = new int[MOST_TRIED];
        final int[] triedStocking = new int[MOST_TRIED];
        final boolean[] triedMay = new boolean[MOST_TRIED];
        int changes;
        int washes;
        int lies;
        int tried;

        void clear() {
            changes = 0;
            washes = 0;
            lies = 0;
            tried = 0;
        }

        void addLie(int stocking, int peg) {
            lieStocking[lies] = stocking;
            liePeg[lies] = peg;
            lies++;
        }

        void addTried(int king, int stocking, boolean may) {
            triedKing[tried] = king;
            triedStocking[tried] = stocking;
            triedMay[tried] = may;
            tried++;
        }

        void copyFrom(Notes other) {
            System.arraycopy(other.lieStocking, 0, lieStocking, 0, MOST_LIES);
            System.arraycopy(other.liePeg, 0, liePeg, 0, MOST_LIES);
            System.arraycopy(other.triedKing, 0, triedKing, 0, MOST_TRIED);
            System.arraycopy(other.triedStocking, 0, triedStocking, 0, MOST_TRIED);
            System.arraycopy(other.triedMay, 0, triedMay, 0, MOST_TRIED);
            changes = other.changes;
            washes = other.washes;
            lies = other.lies;
            tried = other.tried;
        }
    }

    /** MATCH: all ways to give PAIRS to KINGS are gone through, the first by numbers first. */
    private static final class Wedding {
        final int[] best = new int[MOST_KINGS];
        int bestMany;
        int bestWrong;
        private final int[] given = new int[MOST_KINGS];
        // For each KING and each of PAIRS how WRONG it is; NONE, if it is no PAIR of his.
        private final int[] wrongs = new int[MOST_KINGS * PAIRS.length];
        private int kings;

        void arrange(Court court, Rope rope) {
            kings = court.count;
            for (int king = 0; king < kings; king++) {
                weigh(king, court, rope);
            }
            Arrays.fill(best, NONE);
            bestMany = 0;
            bestWrong = 0;
            giveFrom(0, 0, 0, 0);
        }

        private void weigh(int king, Court court, Rope rope) {
            int his = court.mayBeHis(king, rope);
            for (int at = 0; at < PAIRS.length; at++) {
                boolean pair = Court.isPairWithin(his, rope, PAIRS[at]);
                wrongs[king * PAIRS.length + at] = pair ? court.wrongnessOfPair(king, rope, PAIRS[at]) : NONE;
            }
        }

        private void giveFrom(int king, int taken, int many, int wrong) {
            if (king >= kings || king >= MOST_KINGS) {
                keepIfBetter(many, wrong);
                return;
            }
            given[king] = NONE;
            giveFrom(king + 1, taken, many, wrong);
            for (int at = 0; at < PAIRS.length; at++) {
                int both = 1 << PAIRS[at] / 10 | 1 << PAIRS[at] % 10;
                int more = wrongs[king * PAIRS.length + at];
                if (more != NONE && (taken & both) == 0) {
                    given[king] = PAIRS[at];
                    giveFrom(king + 1, taken | both, many + 1, wrong + more);
                }
            }
        }

        private void keepIfBetter(int many, int wrong) {
            if (many > bestMany || (many == bestMany && wrong < bestWrong)) {
                bestMany = many;
                bestWrong = wrong;
                System.arraycopy(given, 0, best, 0, kings);
            }
        }
    }

    /** DOG: for each set of STOCKINGS, as bits, in how few tries it is known which of them it is. */
    private static final class Kennel {
        final int[] fewest = new int[1 << MOST_STOCKINGS];
        private final int[] may = new int[MOST_KINGS];
        private int kings;

        void learn(Court court, Rope rope) {
            kings = court.count;
            for (int king = 0; king < kings; king++) {
                may[king] = court.mayBeHis(king, rope);
            }
            fewest[0] = NONE;
            // A part of a set has a lesser number than the set, so it is known by then.
            for (int set = 1; set < 1 << rope.count; set++) {
                fewest[set] = Integer.bitCount(set) == 1 ? 0 : fewestOver(set);
            }
        }

        int firstKing(int set) {
            for (int king = 0; king < kings && fewest[set] > 0; king++) {
                if (triesFrom(king, set) == fewest[set]) {
                    return king;
                }
            }
            return NONE;
        }

        private int fewestOver(int set) {
            int best = NONE;
            for (int king = 0; king < kings; king++) {
                int tries = triesFrom(king, set);
                if (tries != NONE && (best == NONE || tries < best)) {
                    best = tries;
                }
            }
            return best;
        }

        /** In how few tries, if the first is on this KING; NONE, if it cannot be known so. */
        private int triesFrom(int king, int set) {
            int ifMay = fewest[set & may[king]];
            int ifNot = fewest[set & ~may[king]];
            return ifMay == NONE || ifNot == NONE ? NONE : 1 + Math.max(ifMay, ifNot);
        }
    }
}
