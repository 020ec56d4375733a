import java.math.BigInteger;

/** One test for each sentence of promises 1 to 32 that names an edge: what is still taken, and what is not. */
public final class EdgeCallsTest {
    private static final int NONE = Edges.NONE, UNKNOWN = Edges.UNKNOWN, OUTSIDE = Edges.OUTSIDE;
    private static final int STATE = Edges.STATE, FULL = Edges.FULL, LOW = Edges.LOW, HIGH = Edges.HIGH;
    private static final String SMALL = Edges.SMALL, LARGE = Edges.LARGE;
    private static int promise = 0;

    public static void main(String[] args) {
        aNewObject();
        thePage();
        aLine();
        kings();
        stockings();
        washing();
        starching();
        darning();
        blowing();
        pinning();
        dropping();
        throne();
        match();
        chanceDogCoupFold();
        lying();
        trying();
        years();
        images();
        counts();
        digests();
        theLastCall();
        Edges.end();
    }

    private static void says(String words) {
        Edges.says("Promise " + promise, words);
    }

    private static void due(String call, long got, long want) {
        Edges.due(call, got, want);
    }

    private static void taken(String call, long got) {
        Edges.taken(call, got);
    }

    private static StockingLine of(String text) {
        return Edges.of(text);
    }

    // ---- a new object

    private static void aNewObject() {
        promise = 1;
        says("No LINE.");
        StockingLine x = new StockingLine();
        for (int what = 0; what <= 12; what++) {
            due("count(" + what + ")", x.count(what), 0);
        }
        due("king(0, 0)", x.king(0, 0), UNKNOWN);
        due("stocking(0, 0)", x.stocking(0, 0), UNKNOWN);
        due("throne(0)", x.throne(0), STATE);
        due("restore()", x.restore(), STATE);
        due("blank()", x.blank(), 0);
        due("sweep()", x.sweep(), 0);
        due("forget()", x.forget(), 0);
    }

    // ---- THE PAGE

    private static void thePage() {
        codes();
        lettersInAll();
        blankPage();
        faultOfNothing();
        faultAtTheFirst();
        faultBehindALine();
    }

    private static void codes() {
        promise = 2;
        says("OUTSIDE: code (32 to 126);");
        StockingLine x = new StockingLine();
        due("letter(31)", x.letter(31), OUTSIDE);
        due("letter(32)", x.letter(32), 1);
        due("letter(126)", x.letter(126), 2);
        due("letter(127)", x.letter(127), OUTSIDE);
        due("letter(0)", x.letter(0), OUTSIDE);
        due("letter(-1)", x.letter(-1), OUTSIDE);
        due("letter(LOW)", x.letter(LOW), OUTSIDE);
        due("letter(HIGH)", x.letter(HIGH), OUTSIDE);
        // Codes whose last byte, or last two, would be a letter's.
        due("letter(256 + 107)", x.letter(256 + 107), OUTSIDE);
        due("letter(65536 + 107)", x.letter(65536 + 107), OUTSIDE);
        due("letters", x.count(10), 2);
    }

    private static void lettersInAll() {
        says("FULL: above 52.");
        StockingLine x = new StockingLine();
        for (int many = 1; many <= 52; many++) {
            due("letter " + many, x.letter('k'), many);
        }
        due("letter 53", x.letter('k'), FULL);
        due("letters", x.count(10), 52);
        due("blank()", x.blank(), 52);
        due("letter behind blank()", x.letter('k'), 1);
    }

    private static void blankPage() {
        promise = 3;
        says("THE PAGE is empty: how many letters it had.");
        StockingLine x = of(SMALL);
        due("blank() of an empty one", x.blank(), 0);
        x.letter('z');
        due("blank() of one letter", x.blank(), 1);
        due("letters", x.count(10), 0);
        due("fault()", x.fault(), 0);
        due("the LINE stays", x.count(1), 2);
    }

    private static void faultOfNothing() {
        promise = 4;
        says("how many letters it has, if there is none.");
        due("fault() of an empty one", new StockingLine().fault(), 0);
        due("fault() of an empty one with a LINE", of(SMALL).fault(), 0);
        for (int many = 0; many <= LARGE.length(); many++) {
            due("fault() of " + many + " letters", Edges.typed(LARGE.substring(0, many)).fault(), many);
        }
    }

    private static void faultAtTheFirst() {
        says("The place (from 0) of the first letter of THE PAGE that no LINE has there, behind those ahead of it;");
        due("fault() at the first", Edges.typed("3").fault(), 0);
        due("fault() at the first of more", Edges.typed("x300,x").fault(), 0);
        due("one king alone", Edges.typed("k300;").fault(), 4);
        due("a fifth king", Edges.typed("k300,k300,k300,k300,").fault(), 19);
        due("a stocking in place of a king", Edges.typed("k300,3000").fault(), 5);
        due("a king in place of a stocking", Edges.typed("k300,k800;k300").fault(), 10);
        due("a second semicolon", Edges.typed("k300,k800;3000,8000;").fault(), 19);
    }

    private static void faultBehindALine() {
        says("how many letters it has, if there is none");
        due("a whole LINE", Edges.typed(LARGE).fault(), 49);
        due("a letter more", Edges.typed(LARGE + ",").fault(), 49);
        due("a full PAGE", Edges.typed(LARGE + "000").fault(), 49);
    }

    // ---- a LINE

    private static void aLine() {
        itIsNone();
        thePageIsEmptyThen();
        allThatWasIsGone();
    }

    private static void noLine(String text) {
        StockingLine x = Edges.typed(text);
        due("line() of " + text, x.line(), STATE);
        due("letters", x.count(10), Math.min(text.length(), 52));
        due("lines read", x.count(11), 0);
        due("kings", x.count(0), 0);
    }

    private static void itIsNone() {
        promise = 5;
        says("STATE: it is none.");
        for (int many = 0; many < SMALL.length(); many++) {
            noLine(SMALL.substring(0, many));
        }
        noLine(SMALL + ",");
        noLine(SMALL + ";");
        noLine(SMALL + " ");
        noLine(" " + SMALL);
        noLine("k300,k800,k500");
        noLine("k300,k800,k500,k300");
        noLine("k300,k800,k500,k300;");
        noLine("3000,8000");
        noLine(";3000,8000");
        noLine("k300;3000,8000");
        noLine("k300,k300,k300,k300,k300;3000,8000");
        noLine("k300,k800;3000");
        noLine("k300,k800;3000,3000,3000,3000,3000,3000,3000");
        noLine(LARGE + ",");
        noLine(LARGE + ",00");
        noLine(LARGE + ",0000");
    }

    private static void thePageIsEmptyThen() {
        says("THE PAGE is read as THE LINE (another one is gone, with all that was): how many STOCKINGS; "
            + "THE PAGE is empty then.");
        String[] texts = {"k300,k800;3000,8000", "k300,k800,k500;3000,8000,5000", LARGE};
        int[] stockings = {2, 3, 6};
        int[] kings = {2, 3, 4};
        for (int i = 0; i < texts.length; i++) {
            StockingLine x = Edges.typed(texts[i]);
            due("line()", x.line(), stockings[i]);
            due("kings", x.count(0), kings[i]);
            due("letters", x.count(10), 0);
            due("line() again", x.line(), STATE);
            due("lines read", x.count(11), 1);
        }
    }

    private static void allThatWasIsGone() {
        says("(another one is gone, with all that was)");
        StockingLine x = of(LARGE);
        x.wash();
        x.drop(0);
        x.lies(0, 0);
        x.tryOn(0, 0, true);
        x.image();
        Edges.read(x, SMALL);
        int[] told = {2, 2, 2, 11, 0, 0, 0, 0, 0, 0, 0, 2, 0};
        for (int what = 0; what <= 12; what++) {
            due("count(" + what + ")", x.count(what), told[what]);
        }
        due("king(2, 0)", x.king(2, 0), UNKNOWN);
        due("stocking(2, 0)", x.stocking(2, 0), UNKNOWN);
        due("peg(0)", x.peg(0), 0);
        due("peg(2)", x.peg(2), NONE);
        due("winds(0)", x.winds(0), 19);
        due("king(0, 8)", x.king(0, 8), 1023);
        due("restore()", x.restore(), STATE);
    }

    // ---- KINGS

    private static void kings() {
        whatOfAKing();
        kingOffOrNot();
        kingWithoutAPair();
        likePairsOfAKing();
        calvesAndTry();
        kindsOfAKing();
    }

    private static void whatOfAKing() {
        promise = 6;
        says("UNKNOWN; OUTSIDE.");
        for (String text : new String[] {SMALL, "k300,k800,k500;3000,8000", LARGE}) {
            StockingLine x = of(text);
            int last = x.count(0) - 1;
            taken("king(" + last + ", 0)", x.king(last, 0));
            taken("king(" + last + ", 9)", x.king(last, 9));
            due("king(-1, 0)", x.king(-1, 0), UNKNOWN);
            due("king(" + (last + 1) + ", 0)", x.king(last + 1, 0), UNKNOWN);
            due("king(LOW, 0)", x.king(LOW, 0), UNKNOWN);
            due("king(HIGH, 0)", x.king(HIGH, 0), UNKNOWN);
            due("king(0, -1)", x.king(0, -1), OUTSIDE);
            due("king(0, 10)", x.king(0, 10), OUTSIDE);
            due("king(0, LOW)", x.king(0, LOW), OUTSIDE);
            due("king(0, HIGH)", x.king(0, HIGH), OUTSIDE);
        }
        due("king(0, 0) without a LINE", new StockingLine().king(0, 0), UNKNOWN);
    }

    private static void kingOffOrNot() {
        says("4 which STOCKINGS (OFF or not) MAY BE his, as bits,");
        StockingLine x = of("k300,k900;3000,3000,9000,0001");
        due("all hang", x.king(0, 4), 0b0011);
        Edges.dropAll(x);
        due("all OFF", x.king(0, 4), 0b0011);
        due("none at all", of("k900,k900;0000,0000").king(0, 4), 0);
        due("all of six", of("k300,k900;3000,3000,3000,3000,3000,3000").king(0, 4), 0b111111);
    }

    private static void kingWithoutAPair() {
        says("6 the least WRONG one of these (of like ones the least; NONE), 7 by how much it is WRONG (NONE),");
        StockingLine x = of(SMALL);
        due("how many", x.king(0, 5), 0);
        due("the least wrong", x.king(0, 6), NONE);
        due("by how much", x.king(0, 7), NONE);
        StockingLine y = of("k300,k900;3000,3000");
        due("how many with one", y.king(0, 5), 1);
        due("that one", y.king(0, 6), 1);
        due("by nothing", y.king(0, 7), 0);
        due("as many as can be", of("k300,k900;3000,3000,3000,3000,3000,3000").king(0, 5), 15);
        due("none of six", of("k300,k900;0000,2000,4000,6000,8000,3100").king(0, 5), 0);
    }

    private static void likePairsOfAKing() {
        says("of like ones the least");
        // Sizes 4, 2, 3, 3: pairs 02, 03, 12, 13 are wrong by 1, 23 by nothing.
        StockingLine x = of("k300,k900;4000,2000,3000,3000");
        due("the least wrong", x.king(0, 6), 23);
        due("by how much", x.king(0, 7), 0);
        x.drop(3);
        due("of like ones", x.king(0, 6), 2);
        due("by how much then", x.king(0, 7), 1);
        x.drop(0);
        due("the other one", x.king(0, 6), 12);
    }

    private static void calvesAndTry() {
        says("8 CALVES, as bits, 9 TRY (NONE).");
        StockingLine x = of(SMALL);
        due("nothing tried", x.king(1, 8), 1023);
        due("what to try", x.king(1, 9), 1);
        x.tryOn(1, 1, false);
        x.tryOn(1, 1, true);
        due("no calf", x.king(1, 8), 0);
        due("nothing to try", x.king(1, 9), NONE);
    }

    private static void kindsOfAKing() {
        promise = 7;
        says("NONE: he is none such (the cast fails). UNKNOWN; OUTSIDE.");
        StockingLine x = of("k300,r300;3000,8000");
        due("as(0, 0)", x.as(0, 0), 0);
        due("as(0, 4)", x.as(0, 4), NONE);
        due("as(1, 4)", x.as(1, 4), 1);
        due("as(0, -1)", x.as(0, -1), OUTSIDE);
        due("as(0, 5)", x.as(0, 5), OUTSIDE);
        due("as(0, LOW)", x.as(0, LOW), OUTSIDE);
        due("as(0, HIGH)", x.as(0, HIGH), OUTSIDE);
        due("as(-1, 0)", x.as(-1, 0), UNKNOWN);
        due("as(2, 0)", x.as(2, 0), UNKNOWN);
        due("as(HIGH, 0)", x.as(HIGH, 0), UNKNOWN);
        due("as(0, 0) without a LINE", new StockingLine().as(0, 0), UNKNOWN);
        eachKind();
    }

    private static void eachKind() {
        says("A KING taken as a KIND: his own number (not that of the KIND);");
        String letters = "klybr";
        String[] kinds = {"klybr", "l", "yr", "b", "r"};
        for (int own = 0; own < 5; own++) {
            StockingLine x = of("k300,k300,k300," + letters.charAt(own) + "300;3000,8000");
            for (int kind = 0; kind < 5; kind++) {
                boolean such = kinds[kind].indexOf(letters.charAt(own)) >= 0;
                due(letters.charAt(own) + " as " + kind, x.as(3, kind), such ? 3 : NONE);
            }
        }
    }

    // ---- STOCKINGS

    private static void stockings() {
        whatOfAStocking();
        stockingOff();
        forWhomLeast();
        howWrong();
        whatHangsAtAPeg();
        pegsWithoutALine();
    }

    private static void whatOfAStocking() {
        promise = 8;
        says("UNKNOWN; OUTSIDE.");
        for (String text : new String[] {SMALL, "k300,k800;3000,8000,5000", LARGE}) {
            StockingLine x = of(text);
            int last = x.count(1) - 1;
            taken("stocking(" + last + ", 0)", x.stocking(last, 0));
            taken("stocking(" + last + ", 7)", x.stocking(last, 7));
            due("stocking(-1, 0)", x.stocking(-1, 0), UNKNOWN);
            due("stocking(" + (last + 1) + ", 0)", x.stocking(last + 1, 0), UNKNOWN);
            due("stocking(LOW, 0)", x.stocking(LOW, 0), UNKNOWN);
            due("stocking(HIGH, 0)", x.stocking(HIGH, 0), UNKNOWN);
            due("stocking(0, -1)", x.stocking(0, -1), OUTSIDE);
            due("stocking(0, 8)", x.stocking(0, 8), OUTSIDE);
            due("stocking(0, LOW)", x.stocking(0, LOW), OUTSIDE);
            due("stocking(0, HIGH)", x.stocking(0, HIGH), OUTSIDE);
        }
        due("stocking(0, 0) without a LINE", new StockingLine().stocking(0, 0), UNKNOWN);
    }

    private static void stockingOff() {
        says("4 at which PEG (NONE: OFF)");
        StockingLine x = of(SMALL);
        due("at the first", x.stocking(0, 4), 0);
        x.pin(0, 9);
        due("at the last", x.stocking(0, 4), 9);
        x.drop(0);
        due("OFF", x.stocking(0, 4), NONE);
        due("size of one that is OFF", x.stocking(0, 0), 3);
        due("whose one that is OFF may be", x.stocking(0, 5), 0b01);
        due("for whom it is least wrong", x.stocking(0, 6), 0);
    }

    private static void forWhomLeast() {
        says("6 for whom it is least WRONG (of like ones the least), 7 which others MATCH it, as bits.");
        due("of like ones", of("k300,k500;4000,3000").stocking(0, 6), 0);
        due("the last of four", of("k300,k300,k300,k400;4000,3000").stocking(0, 6), 3);
        due("nobody's, yet least wrong", of("k300,k400;9430,3000").stocking(0, 6), 1);
        due("whose", of("k300,k400;9430,3000").stocking(0, 5), 0);
        due("others, not itself", of("k300,k400;3000,3000,9430").stocking(1, 7), 0b001);
        due("no others", of("k300,k400;3000,3000,9430").stocking(2, 7), 0);
    }

    private static void howWrong() {
        promise = 9;
        says("UNKNOWN: king, stocking.");
        StockingLine x = of("k300,k800;3000,8000,5000");
        due("wrong(0, 0)", x.wrong(0, 0), 0);
        due("wrong(1, 2)", x.wrong(1, 2), 3);
        due("wrong(2, 0)", x.wrong(2, 0), UNKNOWN);
        due("wrong(-1, 0)", x.wrong(-1, 0), UNKNOWN);
        due("wrong(HIGH, 0)", x.wrong(HIGH, 0), UNKNOWN);
        due("wrong(0, 3)", x.wrong(0, 3), UNKNOWN);
        due("wrong(0, -1)", x.wrong(0, -1), UNKNOWN);
        due("wrong(0, LOW)", x.wrong(0, LOW), UNKNOWN);
        due("wrong(0, 0) without a LINE", new StockingLine().wrong(0, 0), UNKNOWN);
    }

    private static void whatHangsAtAPeg() {
        promise = 10;
        says("Which STOCKING hangs at a PEG (NONE).");
        StockingLine x = of(SMALL);
        due("peg(-1)", x.peg(-1), UNKNOWN);
        due("peg(0)", x.peg(0), 0);
        due("peg(9), free", x.peg(9), NONE);
        x.pin(1, 9);
        due("peg(9)", x.peg(9), 1);
        due("peg(10)", x.peg(10), UNKNOWN);
        due("peg(LOW)", x.peg(LOW), UNKNOWN);
        due("peg(HIGH)", x.peg(HIGH), UNKNOWN);
        Edges.dropAll(x);
        due("peg(0), nothing hangs", x.peg(0), NONE);
        due("peg(9), nothing hangs", x.peg(9), NONE);
        due("peg(-1), nothing hangs", x.peg(-1), UNKNOWN);
    }

    private static void pegsWithoutALine() {
        says("UNKNOWN: peg (0 to 9; also without a LINE).");
        StockingLine x = Edges.typed(SMALL);
        for (int peg = -1; peg <= 10; peg++) {
            due("peg(" + peg + ") without a LINE", x.peg(peg), UNKNOWN);
        }
    }

    // ---- what is done

    private static void washing() {
        promise = 11;
        says("STATE: no LINE;");
        StockingLine x = Edges.typed(SMALL);
        due("wash() without a LINE", x.wash(), STATE);
        x.line();
        due("wash() with one", x.wash(), 2);
        howManyHang();
        theHundredthWash();
        theHundredthBehindAnImage();
    }

    private static void howManyHang() {
        says("A WASH: how many hang.");
        StockingLine x = of(SMALL);
        due("both", x.wash(), 2);
        x.drop(0);
        due("one", x.wash(), 1);
        x.drop(1);
        due("none", x.wash(), 0);
        due("it is a wash, too", x.count(7), 3);
        due("and a change", x.count(6), 5);
    }

    private static void theHundredthWash() {
        says("FULL: it would be the 100th.");
        StockingLine x = of(SMALL);
        for (int many = 1; many <= 99; many++) {
            due("wash() " + many, x.wash(), 2);
        }
        due("wash() 100", x.wash(), FULL);
        due("washes", x.count(7), 99);
        due("changes", x.count(6), 99);
        due("starch() is still taken", x.starch(0, 1), 0);
    }

    private static void theHundredthBehindAnImage() {
        says("it would be the 100th");
        StockingLine x = of(SMALL);
        for (int many = 1; many <= 98; many++) {
            x.wash();
        }
        x.image();
        due("wash() 99", x.wash(), 2);
        due("wash() 100", x.wash(), FULL);
        due("restore()", x.restore(), 98);
        due("wash() 99 again", x.wash(), 2);
        due("wash() 100 again", x.wash(), FULL);
        Edges.read(x, SMALL);
        due("wash() of another LINE", x.wash(), 2);
    }

    private static void starching() {
        promise = 12;
        says("UNKNOWN; OUTSIDE: starch (0 to 4).");
        StockingLine x = of(SMALL);
        due("starch(0, 4)", x.starch(0, 4), 0);
        due("starch(0, 5)", x.starch(0, 5), OUTSIDE);
        due("starch(0, 0)", x.starch(0, 0), 4);
        due("starch(0, -1)", x.starch(0, -1), OUTSIDE);
        due("starch(0, LOW)", x.starch(0, LOW), OUTSIDE);
        due("starch(0, HIGH)", x.starch(0, HIGH), OUTSIDE);
        due("starch(1, 1)", x.starch(1, 1), 0);
        due("starch(2, 1)", x.starch(2, 1), UNKNOWN);
        due("starch(-1, 1)", x.starch(-1, 1), UNKNOWN);
        due("starch(HIGH, 1)", x.starch(HIGH, 1), UNKNOWN);
        due("starch(0, 0) without a LINE", new StockingLine().starch(0, 0), UNKNOWN);
        starchingWhatIsOff();
    }

    private static void starchingWhatIsOff() {
        says("A STOCKING (OFF or not) has another STARCH: which it had.");
        StockingLine x = of(SMALL);
        x.drop(0);
        due("OFF", x.starch(0, 3), 0);
        due("its starch", x.stocking(0, 1), 3);
        due("it stays OFF", x.stocking(0, 4), NONE);
        due("another one's stays", x.stocking(1, 1), 0);
    }

    private static void darning() {
        promise = 13;
        says("A DARN: whether the HEEL was worn (1, 0). UNKNOWN.");
        StockingLine x = of("k300,k800;3001,8000,5001");
        due("worn", x.darn(0), 1);
        due("darned", x.darn(0), 0);
        due("never worn", x.darn(1), 0);
        x.drop(2);
        due("OFF", x.darn(2), 1);
        due("darn(3)", x.darn(3), UNKNOWN);
        due("darn(-1)", x.darn(-1), UNKNOWN);
        due("darn(LOW)", x.darn(LOW), UNKNOWN);
        due("darn(HIGH)", x.darn(HIGH), UNKNOWN);
        due("changes", x.count(6), 5);
        due("darn(0) without a LINE", new StockingLine().darn(0), UNKNOWN);
    }

    private static void blowing() {
        promise = 14;
        says("OUTSIDE: by (-9 to 9);");
        StockingLine x = of(SMALL);
        due("wind(10)", x.wind(10), OUTSIDE);
        due("wind(-10)", x.wind(-10), OUTSIDE);
        due("wind(LOW)", x.wind(LOW), OUTSIDE);
        due("wind(HIGH)", x.wind(HIGH), OUTSIDE);
        due("both hang", x.count(2), 2);
        due("wind(9)", x.wind(9), 1);
        due("at the last", x.peg(9), 0);
        due("wind(-9)", x.wind(-9), 0);
        due("at the first", x.peg(0), 0);
        windWithoutALine();
        howManyAreOff();
    }

    private static void windWithoutALine() {
        says("STATE: no LINE.");
        StockingLine x = Edges.typed(SMALL);
        due("wind(0)", x.wind(0), STATE);
        due("wind(9)", x.wind(9), STATE);
        due("wind(-9)", x.wind(-9), STATE);
        x.line();
        due("wind(0) with one", x.wind(0), 0);
    }

    private static void howManyAreOff() {
        says("A WIND: how many are OFF by it.");
        StockingLine x = of(LARGE);
        due("all but one", x.wind(-5), 5);
        due("the last one", x.wind(-1), 1);
        due("none is left", x.wind(-1), 0);
        StockingLine y = of(LARGE);
        due("just to the last", y.wind(4), 0);
        due("two", y.wind(2), 2);
        due("those that were OFF do not count", y.wind(4), 4);
    }

    private static void pinning() {
        promise = 15;
        says("UNKNOWN: stocking, peg (0 to 9);");
        StockingLine x = of(SMALL);
        due("pin(0, 9)", x.pin(0, 9), 0);
        due("pin(0, 10)", x.pin(0, 10), UNKNOWN);
        due("pin(0, 0)", x.pin(0, 0), 9);
        due("pin(0, -1)", x.pin(0, -1), UNKNOWN);
        due("pin(0, LOW)", x.pin(0, LOW), UNKNOWN);
        due("pin(0, HIGH)", x.pin(0, HIGH), UNKNOWN);
        due("pin(1, 2)", x.pin(1, 2), 1);
        due("pin(2, 3)", x.pin(2, 3), UNKNOWN);
        due("pin(-1, 3)", x.pin(-1, 3), UNKNOWN);
        due("pin(HIGH, 3)", x.pin(HIGH, 3), UNKNOWN);
        due("pin(0, 0) without a LINE", new StockingLine().pin(0, 0), UNKNOWN);
        pinnedWhereOneHangs();
        pinnedFromOff();
    }

    private static void pinnedWhereOneHangs() {
        says("STATE: one hangs there (itself, too).");
        StockingLine x = of(SMALL);
        due("another one", x.pin(0, 1), STATE);
        due("itself", x.pin(0, 0), STATE);
        due("itself, the other", x.pin(1, 1), STATE);
        due("nothing is changed", x.count(6), 0);
        x.drop(1);
        due("free now", x.pin(0, 1), 0);
        due("OFF, to where one hangs", x.pin(1, 1), STATE);
        due("still OFF", x.stocking(1, 4), NONE);
    }

    private static void pinnedFromOff() {
        says("A STOCKING hangs at a PEG (from another one, or OFF): at which it was (NONE).");
        StockingLine x = of(SMALL);
        x.drop(0);
        due("from OFF", x.pin(0, 0), NONE);
        due("from another one", x.pin(0, 5), 0);
        due("that is free then", x.peg(0), NONE);
    }

    private static void dropping() {
        promise = 16;
        says("UNKNOWN; STATE: it is OFF.");
        StockingLine x = of(SMALL);
        x.pin(1, 9);
        due("drop(0)", x.drop(0), 0);
        due("drop(0), OFF", x.drop(0), STATE);
        due("drop(1)", x.drop(1), 9);
        due("drop(1), OFF", x.drop(1), STATE);
        due("drop(2)", x.drop(2), UNKNOWN);
        due("drop(-1)", x.drop(-1), UNKNOWN);
        due("drop(LOW)", x.drop(LOW), UNKNOWN);
        due("drop(HIGH)", x.drop(HIGH), UNKNOWN);
        due("changes", x.count(6), 3);
        StockingLine y = of(SMALL);
        y.wind(-1);
        due("OFF by a wind", y.drop(0), STATE);
        due("drop(0) without a LINE", new StockingLine().drop(0), UNKNOWN);
    }

    // ---- the THRONE

    private static void throne() {
        promise = 17;
        says("OUTSIDE; STATE: no LINE.");
        StockingLine x = Edges.typed(SMALL);
        for (int what = 0; what <= 2; what++) {
            due("throne(" + what + ") without a LINE", x.throne(what), STATE);
        }
        x.line();
        taken("throne(0)", x.throne(0));
        taken("throne(2)", x.throne(2));
        due("throne(-1)", x.throne(-1), OUTSIDE);
        due("throne(3)", x.throne(3), OUTSIDE);
        due("throne(LOW)", x.throne(LOW), OUTSIDE);
        due("throne(HIGH)", x.throne(HIGH), OUTSIDE);
        whoseThrone();
    }

    private static void whoseThrone() {
        says("1 whose (NONE, but if it is SETTLED)");
        StockingLine x = of("k300,k800,k300;8000,7000,3000,3000");
        due("disputed", x.throne(1), NONE);
        x.drop(2);
        due("settled", x.throne(1), 1);
        x.drop(0);
        due("regency", x.throne(1), NONE);
        Edges.dropAll(x);
        due("nothing hangs", x.throne(0), 0);
        due("nobody's", x.throne(1), NONE);
        due("who", x.throne(2), 0);
    }

    private static void match() {
        promise = 18;
        says("10 to 13 the PAIR of KING 0 to 3 (NONE: none, or there is none such). OUTSIDE;");
        StockingLine x = of("k900,k300;3000,3000");
        for (int what : new int[] {LOW, -1, 2, 9, 14, HIGH}) {
            due("match(" + what + ")", x.match(what), OUTSIDE);
        }
        due("they are not done", x.count(12), 0);
        due("match(0)", x.match(0), 1);
        due("match(1)", x.match(1), 0);
        due("match(10), none", x.match(10), NONE);
        due("match(11)", x.match(11), 1);
        due("match(12), none such", x.match(12), NONE);
        due("match(13), none such", x.match(13), NONE);
        due("the last of four", of("k900,k900,k900,k300;3000,3000").match(13), 1);
        due("match(0) without a LINE", Edges.typed(SMALL).match(0), STATE);
        due("match(13) without a LINE", Edges.typed(SMALL).match(13), STATE);
        noPairOfOneThatIsGone();
        twentyTimesEver();
    }

    private static void noPairOfOneThatIsGone() {
        says("(NONE: none, or there is none such)");
        StockingLine x = of("k900,k900,k300,k300;3000,3000,3000,3000");
        due("match(13)", x.match(13), 23);
        Edges.read(x, SMALL);
        due("match(13) of another LINE", x.match(13), NONE);
        due("match(12) of another LINE", x.match(12), NONE);
    }

    private static void twentyTimesEver() {
        says("or match() was done 20 times ever (it counts on, whatever is read or restored).");
        StockingLine x = of(SMALL);
        x.image();
        for (int many = 1; many <= 19; many++) {
            taken("match() " + many, x.match(many % 2));
        }
        x.restore();
        due("restored", x.count(12), 19);
        Edges.read(x, SMALL);
        due("read", x.count(12), 19);
        taken("match() 20", x.match(0));
        due("match() 21", x.match(0), STATE);
        x.image();
        x.restore();
        due("match() 21, restored", x.match(10), STATE);
        Edges.read(x, LARGE);
        due("match() 21, read", x.match(1), STATE);
        due("done", x.count(12), 20);
    }

    private static void chanceDogCoupFold() {
        chanceOutside();
        dogOutside();
        coupUnknown();
        foldWithoutALine();
    }

    private static void chanceOutside() {
        promise = 19;
        says("CHANCE: what = 0 above, 1 below, in lowest terms. UNKNOWN; OUTSIDE.");
        StockingLine x = of(SMALL);
        due("chance(0, 0)", x.chance(0, 0), 0);
        due("chance(1, 1)", x.chance(1, 1), 1);
        due("chance(0, -1)", x.chance(0, -1), OUTSIDE);
        due("chance(0, 2)", x.chance(0, 2), OUTSIDE);
        due("chance(0, LOW)", x.chance(0, LOW), OUTSIDE);
        due("chance(0, HIGH)", x.chance(0, HIGH), OUTSIDE);
        due("chance(2, 0)", x.chance(2, 0), UNKNOWN);
        due("chance(-1, 0)", x.chance(-1, 0), UNKNOWN);
        due("chance(HIGH, 0)", x.chance(HIGH, 0), UNKNOWN);
        due("chance(0, 0) without a LINE", new StockingLine().chance(0, 0), UNKNOWN);
        Edges.dropAll(x);
        due("chance(0, 2), nothing hangs", x.chance(0, 2), OUTSIDE);
    }

    private static void dogOutside() {
        promise = 20;
        says("OUTSIDE; STATE: no LINE.");
        StockingLine x = Edges.typed(SMALL);
        due("dog(0) without a LINE", x.dog(0), STATE);
        due("dog(1) without a LINE", x.dog(1), STATE);
        x.line();
        due("dog(0)", x.dog(0), 1);
        due("dog(1)", x.dog(1), 0);
        due("dog(-1)", x.dog(-1), OUTSIDE);
        due("dog(2)", x.dog(2), OUTSIDE);
        due("dog(LOW)", x.dog(LOW), OUTSIDE);
        due("dog(HIGH)", x.dog(HIGH), OUTSIDE);
        says("0 how few (NONE), 1 on which KING first (NONE: it cannot be known, or nobody).");
        due("one hangs", x.drop(0), 0);
        due("how few", x.dog(0), 0);
        due("nobody", x.dog(1), NONE);
        x.drop(1);
        due("nothing hangs", x.dog(0), NONE);
        due("on whom then", x.dog(1), NONE);
    }

    private static void coupUnknown() {
        promise = 21;
        says("COUP; NONE. UNKNOWN.");
        StockingLine x = of("k300,k900;3000,3000");
        due("coup(0)", x.coup(0), 100);
        due("coup(1)", x.coup(1), NONE);
        due("coup(2)", x.coup(2), UNKNOWN);
        due("coup(-1)", x.coup(-1), UNKNOWN);
        due("coup(LOW)", x.coup(LOW), UNKNOWN);
        due("coup(HIGH)", x.coup(HIGH), UNKNOWN);
        taken("coup(3) of four", of(LARGE).coup(3));
        due("coup(4) of four", of(LARGE).coup(4), UNKNOWN);
        due("coup(0) without a LINE", new StockingLine().coup(0), UNKNOWN);
    }

    private static void foldWithoutALine() {
        promise = 22;
        says("FOLD, as bits. STATE: no LINE.");
        StockingLine x = Edges.typed("k300,k900;3000,3000");
        due("fold() without a LINE", x.fold(), STATE);
        x.line();
        due("fold() with one", x.fold(), 1);
        Edges.dropAll(x);
        due("fold() where nothing hangs", x.fold(), 0);
    }

    // ---- LIES

    private static void lying() {
        promise = 23;
        says("UNKNOWN: stocking; OUTSIDE: peg (0 to 9; NONE: OFF); FULL.");
        StockingLine x = of(SMALL);
        due("lies(0, 0)", x.lies(0, 0), 1);
        due("lies(0, 9)", x.lies(0, 9), 2);
        due("lies(1, NONE)", x.lies(1, NONE), 3);
        due("lies(0, 10)", x.lies(0, 10), OUTSIDE);
        due("lies(0, -2)", x.lies(0, -2), OUTSIDE);
        due("lies(0, LOW)", x.lies(0, LOW), OUTSIDE);
        due("lies(0, HIGH)", x.lies(0, HIGH), OUTSIDE);
        due("lies(2, 0)", x.lies(2, 0), UNKNOWN);
        due("lies(-1, 0)", x.lies(-1, 0), UNKNOWN);
        due("lies(HIGH, 0)", x.lies(HIGH, 0), UNKNOWN);
        due("what lies", x.count(8), 3);
        due("lies(0, 0) without a LINE", new StockingLine().lies(0, 0), UNKNOWN);
        theSeventhLie();
        swept();
        windsOutside();
    }

    private static void theSeventhLie() {
        says("It LIES so: how much does.");
        StockingLine x = of(SMALL);
        for (int many = 1; many <= 6; many++) {
            due("lies() " + many, x.lies(0, 4), many);
        }
        due("lies() 7", x.lies(0, 5), FULL);
        due("lies() 7, the same", x.lies(0, 4), FULL);
        due("the seventh does not count", x.winds(0), 1);
    }

    private static void swept() {
        promise = 24;
        says("Nothing LIES any more as told: how much did.");
        StockingLine x = of(SMALL);
        due("nothing lies", x.sweep(), 0);
        for (int many = 1; many <= 6; many++) {
            x.lies(0, 4);
        }
        due("as much as can", x.sweep(), 6);
        due("nothing then", x.count(8), 0);
        due("all winds again", x.winds(0), 19);
        x.tryOn(0, 0, true);
        due("again", x.sweep(), 0);
        due("what is tried stays", x.count(9), 1);
        due("without a LINE", new StockingLine().sweep(), 0);
    }

    private static void windsOutside() {
        promise = 25;
        says("OUTSIDE; STATE: no LINE.");
        StockingLine x = Edges.typed(SMALL);
        for (int what = 0; what <= 3; what++) {
            due("winds(" + what + ") without a LINE", x.winds(what), STATE);
        }
        x.line();
        due("winds(0)", x.winds(0), 19);
        due("winds(3)", x.winds(3), 0);
        due("winds(-1)", x.winds(-1), OUTSIDE);
        due("winds(4)", x.winds(4), OUTSIDE);
        due("winds(LOW)", x.winds(LOW), OUTSIDE);
        due("winds(HIGH)", x.winds(HIGH), OUTSIDE);
        says("1 the least, 2 the greatest (0 for both: there are none), 3 ASK (NONE).");
        x.lies(0, NONE);
        due("the least", x.winds(1), -9);
        due("the greatest", x.winds(2), -1);
        x.lies(0, 0);
        int[] told = {0, 0, 0, NONE};
        for (int what = 0; what <= 3; what++) {
            due("winds(" + what + "), there are none", x.winds(what), told[what]);
        }
    }

    // ---- TRIED

    private static void trying() {
        promise = 26;
        says("UNKNOWN: king, stocking; FULL.");
        StockingLine x = of("k300,k800;3000,8000,5000");
        due("tryOn(1, 2, false)", x.tryOn(1, 2, false), 1);
        due("tryOn(2, 0, true)", x.tryOn(2, 0, true), UNKNOWN);
        due("tryOn(-1, 0, true)", x.tryOn(-1, 0, true), UNKNOWN);
        due("tryOn(HIGH, 0, true)", x.tryOn(HIGH, 0, true), UNKNOWN);
        due("tryOn(0, 3, true)", x.tryOn(0, 3, true), UNKNOWN);
        due("tryOn(0, -1, true)", x.tryOn(0, -1, true), UNKNOWN);
        due("tryOn(0, LOW, true)", x.tryOn(0, LOW, true), UNKNOWN);
        due("what is tried", x.count(9), 1);
        due("tryOn(0, 0, true) without a LINE", new StockingLine().tryOn(0, 0, true), UNKNOWN);
        theNinthTrial();
        forgotten();
    }

    private static void theNinthTrial() {
        says("It is TRIED: how much is.");
        StockingLine x = of(SMALL);
        for (int many = 1; many <= 8; many++) {
            due("tryOn() " + many, x.tryOn(0, 0, true), many);
        }
        due("tryOn() 9", x.tryOn(0, 0, false), FULL);
        due("tryOn() 9, on another", x.tryOn(1, 1, false), FULL);
        due("the ninth does not count", x.king(0, 8), 0b0001111111);
        due("nor on another", x.king(1, 8), 1023);
    }

    private static void forgotten() {
        promise = 27;
        says("Nothing is TRIED any more: how much was.");
        StockingLine x = of(SMALL);
        due("nothing is tried", x.forget(), 0);
        for (int many = 1; many <= 8; many++) {
            x.tryOn(0, 0, true);
        }
        due("as much as can", x.forget(), 8);
        due("nothing then", x.count(9), 0);
        due("all calves again", x.king(0, 8), 1023);
        x.lies(0, 0);
        due("again", x.forget(), 0);
        due("what lies stays", x.count(8), 1);
        due("without a LINE", new StockingLine().forget(), 0);
    }

    // ---- YEARS

    private static void years() {
        promise = 28;
        says("OUTSIDE: years (1 to 60), seed (0 at least), what; STATE: no LINE.");
        StockingLine x = of("k300,k900;3000,3000");
        due("years(1, 1, 0)", x.years(1, 1, 0), 1);
        due("years(60, 1, 1)", x.years(60, 1, 1), 0);
        due("years(1, 0, 2)", x.years(1, 0, 2), 12345);
        due("years(1, HIGH, 2)", x.years(1, HIGH, 2), 1043980748);
        due("years(60, 0, 2)", x.years(60, 0, 2), seedBehind(60, 0));
        for (int years : new int[] {LOW, -1, 0, 61, HIGH}) {
            due("years(" + years + ", 1, 0)", x.years(years, 1, 0), OUTSIDE);
        }
        for (int seed : new int[] {LOW, -1}) {
            due("years(1, " + seed + ", 0)", x.years(1, seed, 0), OUTSIDE);
        }
        for (int what : new int[] {LOW, -1, 3, HIGH}) {
            due("years(1, 1, " + what + ")", x.years(1, 1, what), OUTSIDE);
        }
        for (int what = 0; what <= 2; what++) {
            due("without a LINE", Edges.typed(SMALL).years(1, 1, what), STATE);
        }
    }

    private static int seedBehind(int years, int seed) {
        BigInteger next = BigInteger.valueOf(seed);
        for (int year = 0; year < years; year++) {
            next = next.multiply(BigInteger.valueOf(1103515245L)).add(BigInteger.valueOf(12345L))
                .mod(BigInteger.TWO.pow(31));
        }
        return next.intValueExact();
    }

    // ---- IMAGE

    private static void images() {
        promise = 29;
        says("An IMAGE is kept (one; the latest): how often anything was changed. STATE: no LINE.");
        StockingLine x = Edges.typed(SMALL);
        due("image() without a LINE", x.image(), STATE);
        due("none is kept", x.restore(), STATE);
        x.line();
        due("image() of nothing changed", x.image(), 0);
        x.drop(0);
        due("image(), the latest", x.image(), 1);
        x.drop(1);
        due("restore()", x.restore(), 1);
        due("stocking 0 is OFF", x.stocking(0, 4), NONE);
        due("stocking 1 hangs", x.stocking(1, 4), 1);
        noneWasKept();
        aLineWasReadSince();
        restoredTwice();
    }

    private static void noneWasKept() {
        promise = 30;
        says("STATE: none was kept, or a LINE was read since (of the same text, too).");
        due("restore() without a LINE", new StockingLine().restore(), STATE);
        due("restore() without an image", of(SMALL).restore(), STATE);
    }

    private static void aLineWasReadSince() {
        says("or a LINE was read since (of the same text, too)");
        StockingLine x = of(SMALL);
        x.image();
        Edges.type(x, "k300,k800;3000");
        due("line() that is none", x.line(), STATE);
        due("restore() then", x.restore(), 0);
        Edges.read(x, SMALL);
        due("restore() behind the same text", x.restore(), STATE);
        x.image();
        due("restore() of another image", x.restore(), 0);
        Edges.read(x, LARGE);
        due("restore() behind another text", x.restore(), STATE);
    }

    private static void restoredTwice() {
        says("It goes on from the IMAGE: how often anything was changed (as it was kept).");
        StockingLine x = of(SMALL);
        x.wash();
        x.image();
        for (int time = 1; time <= 2; time++) {
            x.wind(9);
            x.starch(1, 4);
            due("restore()", x.restore(), 1);
            due("changes", x.count(6), 1);
            due("what hangs", x.count(2), 2);
            due("starch", x.stocking(1, 1), 0);
        }
        due("it goes on from there", x.wash(), 2);
        due("changes then", x.count(6), 2);
        due("washes then", x.count(7), 2);
    }

    // ---- what is told of all

    private static void counts() {
        promise = 31;
        says("12 how often match() was done. OUTSIDE.");
        StockingLine x = of(SMALL);
        taken("count(0)", x.count(0));
        taken("count(12)", x.count(12));
        due("count(-1)", x.count(-1), OUTSIDE);
        due("count(13)", x.count(13), OUTSIDE);
        due("count(LOW)", x.count(LOW), OUTSIDE);
        due("count(HIGH)", x.count(HIGH), OUTSIDE);
        due("count(13) without a LINE", new StockingLine().count(13), OUTSIDE);
        alsoByTheSameNumber();
        whatIsNoChange();
        eachTwoOnce();
        whereNothingHangs();
    }

    private static void alsoByTheSameNumber() {
        says("(each wash(), starch(), darn(), wind(), pin(), drop() that is not refused, also by the same number)");
        StockingLine x = of(SMALL);
        int many = 0;
        long[] done = {x.wash(), x.wash(), x.starch(0, 0), x.starch(0, 0), x.darn(0), x.darn(0), x.wind(0), x.wind(0),
            x.pin(0, 9), x.drop(0)};
        for (long answer : done) {
            taken("call " + many, answer);
            many++;
        }
        due("changes", x.count(6), many);
        // Each of them alone, too.
        due("wash()", changesBy(y -> y.wash()), 1);
        due("starch()", changesBy(y -> y.starch(0, 0)), 1);
        due("darn()", changesBy(y -> y.darn(0)), 1);
        due("wind()", changesBy(y -> y.wind(0)), 1);
        due("pin()", changesBy(y -> y.pin(0, 2)), 1);
        due("drop()", changesBy(y -> y.drop(0)), 1);
        due("starch(), refused", changesBy(y -> y.starch(0, 5)), 0);
        due("wind(), refused", changesBy(y -> y.wind(10)), 0);
        due("pin(), refused", changesBy(y -> y.pin(0, 0)), 0);
        due("drop(), refused", changesBy(y -> y.drop(2)), 0);
        due("darn(), refused", changesBy(y -> y.darn(2)), 0);
    }

    private interface Act {
        int on(StockingLine x);
    }

    private static int changesBy(Act act) {
        StockingLine x = of(SMALL);
        act.on(x);
        return x.count(6);
    }

    private static void whatIsNoChange() {
        says("6 how often anything was changed");
        due("lies()", changesBy(y -> y.lies(0, 0)), 0);
        due("sweep()", changesBy(y -> y.sweep()), 0);
        due("tryOn()", changesBy(y -> y.tryOn(0, 0, true)), 0);
        due("forget()", changesBy(y -> y.forget()), 0);
        due("match()", changesBy(y -> y.match(0)), 0);
        due("coup()", changesBy(y -> y.coup(0)), 0);
        due("years()", changesBy(y -> y.years(60, 1, 0)), 0);
        due("image()", changesBy(y -> y.image()), 0);
        due("letter()", changesBy(y -> y.letter('k')), 0);
        due("blank()", changesBy(y -> y.blank()), 0);
    }

    private static void eachTwoOnce() {
        says("4 two that MATCH (each two once)");
        due("two", of("k300,k900;3000,3000").count(4), 1);
        due("six", of("k300,k900;3000,3000,3000,3000,3000,3000").count(4), 15);
        due("nobody's", of("k300,k900;6430,6430").count(4), 1);
        due("none", of(SMALL).count(4), 0);
        due("none of six", of("k300,k900;0000,2000,4000,6000,8000,3100").count(4), 0);
    }

    private static void whereNothingHangs() {
        says("2 that hang, 3 all SIZES together,");
        StockingLine x = of("k300,k900;3000,3000,9430");
        Edges.dropAll(x);
        int[] told = {2, 3, 0, 15, 0, 0, 3, 0, 0, 0, 0, 1, 0};
        for (int what = 0; what <= 12; what++) {
            due("count(" + what + ")", x.count(what), told[what]);
        }
    }

    // ---- digest

    private static void digests() {
        promise = 32;
        wrapping();
        onlyWithALine();
        lettersOfThePage();
        digestDoesNothing();
    }

    private static void wrapping() {
        says("h is 1097, then for each of these numbers, in order, 31 times h, and it (as longs, wrapping):");
        StockingLine x = of(LARGE);
        x.wind(-1);
        x.lies(0, NONE);
        x.tryOn(3, 5, false);
        x.match(0);
        due("digest()", x.digest(), mixed(x, ""));
        Edges.dropAll(x);
        due("digest() where nothing hangs", x.digest(), mixed(x, ""));
        StockingLine y = of(SMALL);
        due("digest() of a small one", y.digest(), mixed(y, ""));
    }

    /** The digest without a wrap, and only at its end as a long. */
    private static long mixed(StockingLine x, String page) {
        Mixer m = new Mixer();
        for (int king = 0; king < x.count(0); king++) {
            for (int what = 0; what <= 9; what++) {
                m.add(x.king(king, what));
            }
            m.add(x.chance(king, 0));
            m.add(x.chance(king, 1));
            m.add(x.coup(king));
        }
        for (int stocking = 0; stocking < x.count(1); stocking++) {
            for (int what = 0; what <= 7; what++) {
                m.add(x.stocking(stocking, what));
            }
            for (int king = 0; king < x.count(0); king++) {
                m.add(x.wrong(king, stocking));
            }
        }
        if (x.count(0) > 0) {
            m.addThrone(x);
        }
        for (int place = 0; place < page.length(); place++) {
            m.add(page.charAt(place));
        }
        for (int what = 0; what <= 12; what++) {
            m.add(x.count(what));
        }
        return m.h.longValue();
    }

    private static final class Mixer {
        private BigInteger h = BigInteger.valueOf(1097);

        private void add(int number) {
            h = h.multiply(BigInteger.valueOf(31)).add(BigInteger.valueOf(number));
        }

        private void addThrone(StockingLine x) {
            for (int what = 0; what <= 2; what++) {
                add(x.throne(what));
            }
            add(x.dog(0));
            add(x.dog(1));
            add(x.fold());
            for (int what = 0; what <= 3; what++) {
                add(x.winds(what));
            }
        }
    }

    private static void onlyWithALine() {
        says("with a LINE (all up to the next semicolon) what throne() tells for 0 to 2");
        // Thirteen counts, all 0: 1097 times 31 to the 13th, whose wrap is told by the model above.
        due("digest() of a new object", new StockingLine().digest(), mixed(new StockingLine(), ""));
        long h = 1097;
        for (int what = 0; what <= 12; what++) {
            h *= 31;
        }
        due("digest() of thirteen noughts", new StockingLine().digest(), h);
    }

    private static void lettersOfThePage() {
        says("letters of THE PAGE; what count() tells for 0 to 12.");
        StockingLine x = Edges.typed(" ~");
        due("without a LINE", x.digest(), mixed(x, " ~"));
        StockingLine y = of(SMALL);
        Edges.type(y, LARGE + "~~~");
        due("a full PAGE", y.digest(), mixed(y, LARGE + "~~~"));
        y.blank();
        due("an empty PAGE", y.digest(), mixed(y, ""));
    }

    private static void digestDoesNothing() {
        says("what count() tells for 0 to 12");
        StockingLine x = of("k300,k900;3001,3100,5010");
        x.image();
        long was = x.digest();
        due("again", x.digest(), was);
        due("changes", x.count(6), 0);
        due("match() was not done", x.count(12), 0);
        due("restore()", x.restore(), 0);
        due("behind it", x.digest(), was);
    }

    // ---- how long an object is used

    private static void theLastCall() {
        Edges.says("What it is", "An object is used for at most 512 calls after it has been made;");
        StockingLine x = of(SMALL);
        for (int calls = SMALL.length() + 2; calls <= 512; calls++) {
            due("call " + calls, calls % 2 == 0 ? x.blank() : x.letter('k'), 1);
        }
    }
}
