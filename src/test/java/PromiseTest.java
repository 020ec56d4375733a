/** For each promise of the document: ordinary inputs, the edges that it names, and wrong inputs. */
public final class PromiseTest {
    private static final int NONE = -1, UNKNOWN = -101, OUTSIDE = -102, STATE = -103, FULL = -104;
    private static final int LOW = Integer.MIN_VALUE, HIGH = Integer.MAX_VALUE;
    /** Two kings and two stockings, each king's own. */
    private static final String SMALL = "k300,k800;3000,8000";
    private static final String LARGE = "k500,l521,y742,r713;4000,5001,6210,5211,9430,0431";
    private static int wrong = 0;
    private static int promise = 0;

    public static void main(String[] args) {
        newObject();
        letter();
        blank();
        fault();
        line();
        king();
        kingPairs();
        as();
        stocking();
        wrongness();
        peg();
        wash();
        starch();
        darn();
        wind();
        pin();
        drop();
        throne();
        match();
        chance();
        dog();
        coup();
        fold();
        lies();
        sweep();
        winds();
        tryOn();
        forget();
        years();
        image();
        restore();
        count();
        digest();
        refusalsChangeNothing();
        System.out.println(wrong == 0 ? "all promises hold" : wrong + " answers are not as promised");
        if (wrong != 0) {
            System.exit(1);
        }
    }

    private static void due(String call, long got, long want) {
        if (got != want) {
            wrong++;
            System.out.println("promise " + promise + ": " + call + " answered " + got + ", due is " + want);
        }
    }

    private static void type(StockingLine x, String text) {
        for (int i = 0; i < text.length(); i++) {
            x.letter(text.charAt(i));
        }
    }

    private static StockingLine of(String text) {
        StockingLine x = new StockingLine();
        type(x, text);
        if (x.line() < 0) {
            wrong++;
            System.out.println("promise " + promise + ": " + text + " is not read");
        }
        return x;
    }

    private static void newObject() {
        promise = 1;
        StockingLine x = new StockingLine();
        for (int what = 0; what <= 12; what++) {
            due("count(" + what + ")", x.count(what), 0);
        }
        due("king", x.king(0, 0), UNKNOWN);
        due("stocking", x.stocking(0, 0), UNKNOWN);
        due("peg", x.peg(0), UNKNOWN);
        due("throne", x.throne(0), STATE);
        due("image", x.image(), STATE);
        due("restore", x.restore(), STATE);
        due("fault", x.fault(), 0);
        long h = 1097;
        for (int i = 0; i <= 12; i++) {
            h *= 31;
        }
        due("digest", x.digest(), h);
    }

    private static void letter() {
        promise = 2;
        StockingLine x = new StockingLine();
        due("letter(31)", x.letter(31), OUTSIDE);
        due("letter(127)", x.letter(127), OUTSIDE);
        due("letter(LOW)", x.letter(LOW), OUTSIDE);
        due("letter(HIGH)", x.letter(HIGH), OUTSIDE);
        due("letter(32)", x.letter(32), 1);
        due("letter(126)", x.letter(126), 2);
        for (int i = 3; i <= 52; i++) {
            due("letter " + i, x.letter('k'), i);
        }
        due("letter 53", x.letter('k'), FULL);
        due("letter 53, outside", x.letter(127), OUTSIDE);
        due("count(10)", x.count(10), 52);
    }

    private static void blank() {
        promise = 3;
        StockingLine x = new StockingLine();
        due("blank of none", x.blank(), 0);
        type(x, "k30");
        due("blank", x.blank(), 3);
        due("blank again", x.blank(), 0);
        due("letter behind it", x.letter('k'), 1);
        StockingLine y = of(SMALL);
        type(y, "zz");
        y.blank();
        due("the line stays", y.count(1), 2);
    }

    private static void faultAt(String text, int place) {
        StockingLine x = new StockingLine();
        type(x, text);
        due("fault of " + text, x.fault(), place);
        due("letters stay", x.count(10), text.length());
    }

    private static void fault() {
        promise = 4;
        faultAt("", 0);
        faultAt("x", 0);
        faultAt("K", 0);
        faultAt("3", 0);
        faultAt("k", 1);
        faultAt("k9", 2);
        faultAt("k95", 2);
        faultAt("k94", 3);
        faultAt("k944", 3);
        faultAt("kk", 1);
        faultAt("k943,", 5);
        faultAt("k943;", 4);
        faultAt("k943,,", 5);
        faultAt("k943,b0000", 9);
        faultAt("k943,b000;", 10);
        faultAt("k943,b000,l000,y000,", 19);
        faultAt("k943,b000,l000,y000;", 20);
        faultAt("k943,b000;k", 10);
        faultAt("k943,b000;9431", 14);
        faultAt("k943,b000;95", 11);
        faultAt("k943,b000;944", 12);
        faultAt("k943,b000;9432", 13);
        faultAt("k943,b000;9431;", 14);
        faultAt("k943,b000;9431,0000;", 19);
        faultAt("k943,b000;9431,0000,", 20);
        String full = "k943,b000,r111,y222;9431,0000,0000,0000,0000,0000";
        faultAt(full, 49);
        faultAt(full + ",", 49);
        faultAt(full + ",00", 49);
        faultAt("k943 b000", 4);
    }

    private static void notALine(String text) {
        StockingLine x = new StockingLine();
        type(x, text);
        due("line of " + text, x.line(), STATE);
        due("letters stay", x.count(10), text.length());
        due("nothing is read", x.count(11), 0);
    }

    private static void line() {
        promise = 5;
        notALine("");
        notALine("k300");
        notALine("k300,k800");
        notALine("k300,k800;");
        notALine("k300,k800;3000");
        notALine("k300,k800;3000,");
        notALine("k300,k800;3000,800");
        notALine("k300,k800;3000,8000,");
        notALine("k300;3000,8000");
        notALine("k300,k800,k800,k800,k800;3000,8000");
        notALine("k300,k800;0000,0000,0000,0000,0000,0000,0000");
        notALine("k300,k800;3000,8002");
        due("stockings", of(LARGE).count(1), 6);
        StockingLine x = new StockingLine();
        type(x, SMALL);
        due("line", x.line(), 2);
        due("page", x.count(10), 0);
        due("first peg", x.stocking(0, 4), 0);
        due("second peg", x.stocking(1, 4), 1);
        x.wash();
        x.drop(0);
        x.lies(0, 0);
        x.tryOn(0, 0, true);
        x.match(0);
        x.image();
        type(x, "k300,k800;3");
        due("none", x.line(), STATE);
        due("all stays", x.count(6), 2);
        due("its image too", x.restore(), 2);
        x.blank();
        type(x, "k111,l222,b333;4431,5220,6111");
        due("another one", x.line(), 3);
        due("kings", x.count(0), 3);
        due("all hang", x.count(2), 3);
        for (int what = 6; what <= 10; what++) {
            due("count(" + what + ")", x.count(what), 0);
        }
        due("read twice", x.count(11), 2);
        due("match goes on", x.count(12), 1);
        due("image is gone", x.restore(), STATE);
        due("size", x.stocking(0, 0), 4);
        due("starch", x.stocking(0, 1), 4);
        due("knitter", x.stocking(0, 2), 3);
        due("heel", x.stocking(0, 3), 1);
        type(x, SMALL);
        due("fewer", x.line(), 2);
        due("third is gone", x.stocking(2, 0), UNKNOWN);
        due("third king is gone", x.king(2, 0), UNKNOWN);
        due("third peg is free", x.peg(2), NONE);
    }

    private static void king() {
        promise = 6;
        StockingLine x = of("k943,l832,y721,b610;3000,8000");
        int[][] told = {{0, 9, 4, 3}, {1, 8, 3, 2}, {2, 7, 2, 1}, {3, 6, 1, 0}};
        for (int k = 0; k < 4; k++) {
            for (int what = 0; what < 4; what++) {
                due("king(" + k + ", " + what + ")", x.king(k, what), told[k][what]);
            }
        }
        due("regent", of("k300,r800;3000,8000").king(1, 0), 4);
        due("king(4, 0)", x.king(4, 0), UNKNOWN);
        due("king(-1, 0)", x.king(-1, 0), UNKNOWN);
        due("king(LOW, 0)", x.king(LOW, 0), UNKNOWN);
        due("king(4, 10)", x.king(4, 10), UNKNOWN);
        due("king(0, 10)", x.king(0, 10), OUTSIDE);
        due("king(0, -1)", x.king(0, -1), OUTSIDE);
        due("king(0, HIGH)", x.king(0, HIGH), OUTSIDE);
        due("without a LINE", new StockingLine().king(0, 10), UNKNOWN);
        StockingLine y = of("k300,k800;3000,8000,6000,7000,5000,0000");
        due("may be his", y.king(0, 4), 0b110101);
        y.drop(0);
        due("OFF or not", y.king(0, 4), 0b110101);
    }

    private static void kingPairs() {
        StockingLine x = of("k300,k800;3000,2000,4000,3010,3100,3000");
        due("pairs", x.king(0, 5), 5);
        due("least wrong", x.king(0, 6), 5);
        due("by", x.king(0, 7), 0);
        due("none", x.king(1, 5), 0);
        due("none least", x.king(1, 6), NONE);
        due("none by", x.king(1, 7), NONE);
        x.drop(0);
        due("pairs of those that hang", x.king(0, 5), 2);
        due("of like ones the least", x.king(0, 6), 15);
        due("by 1", x.king(0, 7), 1);
        due("all calves", x.king(0, 8), 1023);
        due("try", x.king(0, 9), 1);
        x.tryOn(0, 0, true);
        due("calves about 3", x.king(0, 8), 0b0001111111);
        x.tryOn(1, 0, false);
        due("another's trial does not count", x.king(0, 8), 0b0001111111);
        due("what it may not be", x.king(1, 8), 0b1110000000);
        x.starch(0, 1);
        due("all else as it is then", x.king(0, 8), 0b0000011100);
        x.starch(0, 0);
        x.tryOn(0, 0, false);
        due("no calves", x.king(0, 8), 0);
        due("nothing to try", x.king(0, 9), NONE);
        StockingLine y = of("y300,l300;3000,0001");
        y.tryOn(0, 0, false);
        due("young by two less", y.king(0, 8), 0b1000000000);
        y.forget();
        y.tryOn(0, 0, true);
        due("young ones may have", y.king(0, 8), 0b0111111111);
        y.tryOn(1, 0, true);
        due("lame one with a whole heel", y.king(1, 8), 0b0000011100);
        y.drop(1);
        due("to try one that is OFF", y.king(1, 9), 1);
    }

    private static void as() {
        promise = 7;
        StockingLine x = of("l300,y300,b300,r300;3000,8000");
        int[][] told = {{0, 0, NONE, NONE, NONE}, {1, NONE, 1, NONE, NONE}, {2, NONE, NONE, 2, NONE},
            {3, NONE, 3, NONE, 3}};
        for (int k = 0; k < 4; k++) {
            for (int kind = 0; kind < 5; kind++) {
                due("as(" + k + ", " + kind + ")", x.as(k, kind), told[k][kind]);
            }
        }
        StockingLine y = of(SMALL);
        due("a plain king", y.as(1, 0), 1);
        for (int kind = 1; kind < 5; kind++) {
            due("a plain king is no other", y.as(1, kind), NONE);
        }
        due("as(4, 0)", x.as(4, 0), UNKNOWN);
        due("as(-1, 5)", x.as(-1, 5), UNKNOWN);
        due("as(0, 5)", x.as(0, 5), OUTSIDE);
        due("as(0, -1)", x.as(0, -1), OUTSIDE);
        due("without a LINE", new StockingLine().as(0, 0), UNKNOWN);
    }

    private static void stocking() {
        promise = 8;
        StockingLine x = of("k300,k700,b700;9431,5000,5000,4000,6000,3000");
        int[] told = {9, 4, 3, 1, 0, 0, 2, 0};
        for (int what = 0; what < 8; what++) {
            due("stocking(0, " + what + ")", x.stocking(0, what), told[what]);
        }
        due("whose", x.stocking(1, 5), 0b111);
        due("whose, near", x.stocking(5, 5), 0b001);
        due("of like ones the least", x.stocking(1, 6), 0);
        due("nearer to the second", x.stocking(4, 6), 1);
        due("mates", x.stocking(1, 7), 0b011100);
        due("mates of the least", x.stocking(5, 7), 0b001000);
        x.drop(2);
        due("mates that hang", x.stocking(1, 7), 0b011000);
        due("OFF has none", x.stocking(2, 7), 0);
        due("OFF is at no peg", x.stocking(2, 4), NONE);
        due("OFF may be theirs", x.stocking(2, 5), 0b111);
        due("stocking(6, 0)", x.stocking(6, 0), UNKNOWN);
        due("stocking(-1, 9)", x.stocking(-1, 9), UNKNOWN);
        due("stocking(0, 8)", x.stocking(0, 8), OUTSIDE);
        due("stocking(0, -1)", x.stocking(0, -1), OUTSIDE);
        due("without a LINE", new StockingLine().stocking(0, 8), UNKNOWN);
    }

    private static void wrongness() {
        promise = 9;
        StockingLine x = of("k500,l500,y500,b500;5000,5001,5100,5010,2111,9000");
        int[][] told = {{0, 1, 2, 3, 9, 4}, {2, 0, 4, 5, 8, 6}, {2, 3, 4, 5, 7, 6}, {0, 1, 0, 3, 7, 4}};
        for (int k = 0; k < 4; k++) {
            for (int s = 0; s < 6; s++) {
                due("wrong(" + k + ", " + s + ")", x.wrong(k, s), told[k][s]);
            }
        }
        StockingLine y = of("r100,y100,r500;0000,0010,2010,5131");
        due("calf 0 at least", y.wrong(0, 0), 0);
        due("regent, knitter", y.wrong(0, 1), 0);
        due("young, knitter", y.wrong(1, 1), 3);
        due("regent, size", y.wrong(0, 2), 2);
        due("regent, all", y.wrong(2, 3), 5);
        due("wrong(3, 0)", y.wrong(3, 0), UNKNOWN);
        due("wrong(0, 4)", y.wrong(0, 4), UNKNOWN);
        due("wrong(-1, -1)", y.wrong(-1, -1), UNKNOWN);
        due("without a LINE", new StockingLine().wrong(0, 0), UNKNOWN);
    }

    private static void peg() {
        promise = 10;
        StockingLine x = of(SMALL);
        due("peg(0)", x.peg(0), 0);
        due("peg(1)", x.peg(1), 1);
        due("peg(2)", x.peg(2), NONE);
        due("peg(9)", x.peg(9), NONE);
        due("peg(10)", x.peg(10), UNKNOWN);
        due("peg(-1)", x.peg(-1), UNKNOWN);
        x.drop(0);
        due("peg(0) then", x.peg(0), NONE);
        due("peg(-1) then", x.peg(-1), UNKNOWN);
        due("peg(LOW)", x.peg(LOW), UNKNOWN);
        due("peg(HIGH)", x.peg(HIGH), UNKNOWN);
        x.drop(1);
        due("a LINE of which nothing hangs", x.peg(1), NONE);
        StockingLine y = new StockingLine();
        for (int p = -1; p <= 10; p++) {
            due("peg(" + p + ") without a LINE", y.peg(p), UNKNOWN);
        }
        type(y, SMALL);
        due("with a LINE on THE PAGE alone", y.peg(0), UNKNOWN);
        y.line();
        due("with it read", y.peg(0), 0);
        due("and none there", y.peg(9), NONE);
    }

    private static void wash() {
        promise = 11;
        due("without a LINE", new StockingLine().wash(), STATE);
        StockingLine x = of("k300,k800;3000,3010,0020,2030,9010");
        x.drop(3);
        due("wash", x.wash(), 4);
        int[] sizes = {3, 2, 0, 2, 8};
        for (int s = 0; s < 5; s++) {
            due("size of " + s, x.stocking(s, 0), sizes[s]);
        }
        for (int i = 2; i <= 99; i++) {
            due("wash " + i, x.wash(), 4);
        }
        due("the 100th", x.wash(), FULL);
        due("washes", x.count(7), 99);
        due("changes", x.count(6), 100);
        type(x, SMALL);
        x.line();
        due("anew behind a LINE", x.wash(), 2);
    }

    private static void starch() {
        promise = 12;
        StockingLine x = of(SMALL);
        due("starch", x.starch(0, 4), 0);
        due("starch back", x.starch(0, 0), 4);
        due("the same", x.starch(0, 0), 0);
        due("changes", x.count(6), 3);
        x.drop(1);
        due("OFF", x.starch(1, 2), 0);
        due("OFF then", x.stocking(1, 1), 2);
        due("starch(2, 0)", x.starch(2, 0), UNKNOWN);
        due("starch(2, 5)", x.starch(2, 5), UNKNOWN);
        due("starch(0, 5)", x.starch(0, 5), OUTSIDE);
        due("starch(0, -1)", x.starch(0, -1), OUTSIDE);
        due("changes then", x.count(6), 5);
        due("without a LINE", new StockingLine().starch(0, 0), UNKNOWN);
    }

    private static void darn() {
        promise = 13;
        StockingLine x = of("k300,k800;3001,8000,4001");
        due("worn", x.darn(0), 1);
        due("not worn then", x.darn(0), 0);
        due("heel", x.stocking(0, 3), 0);
        due("not worn", x.darn(1), 0);
        x.drop(2);
        due("OFF", x.darn(2), 1);
        due("changes", x.count(6), 5);
        due("darn(3)", x.darn(3), UNKNOWN);
        due("darn(-1)", x.darn(-1), UNKNOWN);
        due("without a LINE", new StockingLine().darn(0), UNKNOWN);
    }

    private static void wind() {
        promise = 14;
        StockingLine x = of("k300,k800;3000,8000,4000");
        due("on", x.wind(7), 0);
        due("to the last", x.stocking(2, 4), 9);
        due("none", x.wind(0), 0);
        due("beyond the last", x.wind(1), 1);
        due("is OFF", x.stocking(2, 4), NONE);
        due("back", x.wind(-8), 0);
        due("to the first", x.stocking(0, 4), 0);
        due("beyond the first", x.wind(-1), 1);
        due("OFF stays OFF", x.wind(9), 0);
        due("is OFF too", x.stocking(0, 4), NONE);
        due("goes on", x.stocking(1, 4), 9);
        due("changes", x.count(6), 6);
        due("wind(10)", x.wind(10), OUTSIDE);
        due("wind(-10)", x.wind(-10), OUTSIDE);
        due("wind(LOW)", x.wind(LOW), OUTSIDE);
        due("without a LINE", new StockingLine().wind(9), STATE);
        due("outside without a LINE", new StockingLine().wind(10), OUTSIDE);
    }

    private static void pin() {
        promise = 15;
        StockingLine x = of(SMALL);
        due("to another", x.pin(0, 9), 0);
        due("from it", x.pin(0, 0), 9);
        due("itself", x.pin(0, 0), STATE);
        due("one hangs there", x.pin(0, 1), STATE);
        x.drop(1);
        due("where it hung", x.pin(0, 1), 0);
        due("from OFF", x.pin(1, 5), NONE);
        due("hangs", x.peg(5), 1);
        due("changes", x.count(6), 5);
        due("pin(2, 3)", x.pin(2, 3), UNKNOWN);
        due("pin(0, 10)", x.pin(0, 10), UNKNOWN);
        due("pin(0, -1)", x.pin(0, -1), UNKNOWN);
        due("without a LINE", new StockingLine().pin(0, 0), UNKNOWN);
    }

    private static void drop() {
        promise = 16;
        StockingLine x = of(SMALL);
        due("drop", x.drop(1), 1);
        due("OFF", x.drop(1), STATE);
        due("hang", x.count(2), 1);
        due("changes", x.count(6), 1);
        due("drop(2)", x.drop(2), UNKNOWN);
        due("drop(-1)", x.drop(-1), UNKNOWN);
        due("without a LINE", new StockingLine().drop(0), UNKNOWN);
    }

    private static void throneIs(StockingLine x, int how, int whose, int who) {
        due("how", x.throne(0), how);
        due("whose", x.throne(1), whose);
        due("who", x.throne(2), who);
    }

    private static void throne() {
        promise = 17;
        throneIs(of(SMALL), 0, NONE, 0);
        StockingLine x = of("k200,k800,k700;8000,7000,2000,3000");
        throneIs(x, 2, NONE, 0b111);
        x.drop(2);
        throneIs(x, 2, NONE, 0b110);
        StockingLine y = of("k200,k900;8000,7000,3000");
        throneIs(y, 1, 1, 0b10);
        y.starch(0, 1);
        throneIs(y, 0, NONE, 0);
        due("throne(3)", y.throne(3), OUTSIDE);
        due("throne(-1)", y.throne(-1), OUTSIDE);
        due("without a LINE", new StockingLine().throne(2), STATE);
        due("outside without a LINE", new StockingLine().throne(3), OUTSIDE);
    }

    private static void matchIs(String text, int... told) {
        StockingLine x = of(text);
        int[] whats = {0, 1, 10, 11, 12, 13};
        for (int i = 0; i < whats.length; i++) {
            due("match(" + whats[i] + ") of " + text, x.match(whats[i]), told[i]);
        }
    }

    private static void match() {
        promise = 18;
        matchIs(SMALL, 0, 0, NONE, NONE, NONE, NONE);
        matchIs("k300,k300;3000,3000", 1, 0, NONE, 1, NONE, NONE);
        matchIs("k300,k300;3000,3000,3000,3000", 2, 0, 1, 23, NONE, NONE);
        // The first king's best pair would leave the second one none.
        matchIs("k500,k800;5000,5000,4000,4000", 2, 8, 23, 1, NONE, NONE);
        matchIs("k500,k800;5000,5000,4000,4100,4100", 2, 12, 34, 1, NONE, NONE);
        matchIs("k500,k500,k500,k500;5000,5000,5000,5000,5000,5000", 3, 0, NONE, 1, 23, 45);
        StockingLine x = of(SMALL);
        due("match(2)", x.match(2), OUTSIDE);
        due("match(9)", x.match(9), OUTSIDE);
        due("match(14)", x.match(14), OUTSIDE);
        due("match(-1)", x.match(-1), OUTSIDE);
        x.image();
        for (int i = 1; i <= 20; i++) {
            due("match " + i, x.match(12), NONE);
            if (i == 9) {
                x.restore();
            }
            if (i == 15) {
                type(x, SMALL);
                x.line();
            }
        }
        due("match 21", x.match(0), STATE);
        due("match 21, outside", x.match(2), OUTSIDE);
        due("done", x.count(12), 20);
        due("without a LINE", new StockingLine().match(0), STATE);
        due("outside without a LINE", new StockingLine().match(14), OUTSIDE);
    }

    private static void chanceIs(StockingLine x, int king, int above, int below) {
        due("above", x.chance(king, 0), above);
        due("below", x.chance(king, 1), below);
    }

    private static void chance() {
        promise = 19;
        StockingLine x = of("k300,k800;3000,3000,8000,8000,8000,1111");
        chanceIs(x, 0, 1, 15);
        chanceIs(x, 1, 1, 5);
        x.drop(5);
        chanceIs(x, 1, 3, 10);
        x.drop(0);
        chanceIs(x, 0, 0, 1);
        chanceIs(x, 1, 1, 2);
        x.drop(1);
        chanceIs(x, 1, 1, 1);
        x.drop(2);
        x.drop(3);
        chanceIs(x, 1, 0, 1);
        x.drop(4);
        chanceIs(x, 1, 0, 1);
        due("chance(2, 0)", x.chance(2, 0), UNKNOWN);
        due("chance(2, 2)", x.chance(2, 2), UNKNOWN);
        due("chance(0, 2)", x.chance(0, 2), OUTSIDE);
        due("chance(0, -1)", x.chance(0, -1), OUTSIDE);
        due("without a LINE", new StockingLine().chance(0, 2), UNKNOWN);
    }

    private static void dogIs(StockingLine x, int few, int first) {
        due("how few", x.dog(0), few);
        due("first", x.dog(1), first);
    }

    private static void dog() {
        promise = 20;
        dogIs(of(SMALL), 1, 0);
        dogIs(of("k300,k800;3000,3000"), NONE, NONE);
        // King 0 tells nothing, king 1 tells all.
        dogIs(of("k500,k800;4000,5000"), 1, 1);
        // Whom to try next goes by what is known then: without that it would be 3.
        dogIs(of("k000,k300,k600;0000,3000,6000,9000"), 2, 0);
        dogIs(of("k300,k000,k600;0000,3000,6000,9000"), 2, 1);
        dogIs(of("k000,k400,k800;0000,4000,8000,0130"), 3, 0);
        StockingLine y = of("k900,k400,k600;3000,7000,9000,0000");
        dogIs(y, 2, 0);
        y.drop(2);
        y.drop(1);
        dogIs(y, 1, 1);
        y.drop(3);
        dogIs(y, 0, NONE);
        y.drop(0);
        dogIs(y, NONE, NONE);
        due("dog(2)", y.dog(2), OUTSIDE);
        due("dog(-1)", y.dog(-1), OUTSIDE);
        due("without a LINE", new StockingLine().dog(0), STATE);
        due("outside without a LINE", new StockingLine().dog(2), OUTSIDE);
    }

    private static void coup() {
        promise = 21;
        due("nothing helps", of(SMALL).coup(0), NONE);
        due("so already", of("k300,k900;3000,3000").coup(0), 100);
        due("starch", of("k300,k900;3000,3100").coup(0), 1);
        due("starch the second", of("k300,k900;5000,5400").coup(0), 10);
        due("a darn in the first", of("k500,l000;2001,3000").coup(0), 9);
        due("a darn in the second", of("k500,k900;3001,2001").coup(0), 19);
        due("a darn against another", of("k500,l800;5001,6001").coup(0), 9);
        due("from another", of("k500,k600;5000,5000").coup(0), NONE);
        StockingLine x = of("k300,k900;3000,3100");
        due("not the other's", x.coup(1), NONE);
        x.drop(0);
        due("only those that hang", x.coup(0), NONE);
        due("coup(2)", x.coup(2), UNKNOWN);
        due("coup(-1)", x.coup(-1), UNKNOWN);
        due("nothing is done", x.count(6), 1);
        due("without a LINE", new StockingLine().coup(0), UNKNOWN);
    }

    private static void fold() {
        promise = 22;
        due("nobody has one", of(SMALL).fold(), 0);
        due("one", of("k300,k900;3000,3000").fold(), 0b1);
        due("the middle one", of("k300,k900;2000,3000,4000").fold(), 0b010);
        due("two of three", of("k300,k900;3000,3000,3000").fold(), 0b011);
        StockingLine x = of("k300,k900;3000,3000,9000,9000");
        due("one of each", x.fold(), 0b0101);
        x.drop(0);
        due("of those that hang", x.fold(), 0b0100);
        due("nothing is done", x.count(2), 3);
        due("without a LINE", new StockingLine().fold(), STATE);
    }

    private static void lies() {
        promise = 23;
        StockingLine x = of(SMALL);
        due("lies", x.lies(0, 9), 1);
        due("OFF", x.lies(0, NONE), 2);
        due("the same", x.lies(0, NONE), 3);
        due("lies(2, 10)", x.lies(2, 10), UNKNOWN);
        due("lies(-1, 0)", x.lies(-1, 0), UNKNOWN);
        due("lies(0, 10)", x.lies(0, 10), OUTSIDE);
        due("lies(0, -2)", x.lies(0, -2), OUTSIDE);
        for (int i = 4; i <= 6; i++) {
            due("lies " + i, x.lies(1, 0), i);
        }
        due("lies 7", x.lies(1, 0), FULL);
        due("lies 7, outside", x.lies(1, 10), OUTSIDE);
        due("how much", x.count(8), 6);
        due("no change", x.count(6), 0);
        due("without a LINE", new StockingLine().lies(0, 0), UNKNOWN);
    }

    private static void sweep() {
        promise = 24;
        StockingLine x = of(SMALL);
        due("none", x.sweep(), 0);
        x.lies(0, 9);
        x.lies(0, 8);
        x.tryOn(0, 0, true);
        due("sweep", x.sweep(), 2);
        due("again", x.sweep(), 0);
        due("lies", x.count(8), 0);
        due("tried stays", x.count(9), 1);
        due("winds", x.winds(0), 19);
        due("without a LINE", new StockingLine().sweep(), 0);
    }

    private static void windsAre(StockingLine x, int many, int least, int greatest, int ask) {
        due("how many", x.winds(0), many);
        due("the least", x.winds(1), least);
        due("the greatest", x.winds(2), greatest);
        due("ask", x.winds(3), ask);
    }

    private static void winds() {
        promise = 25;
        StockingLine x = of("k300,k900;3000,3000,9000");
        windsAre(x, 19, -9, 9, 0);
        x.pin(1, 9);
        x.pin(2, 5);
        windsAre(x, 19, -9, 9, 0);
        x.lies(0, NONE);
        windsAre(x, 9, -9, -1, 1);
        x.lies(2, NONE);
        windsAre(x, 4, -9, -6, 1);
        x.lies(1, 3);
        windsAre(x, 1, -6, -6, 0);
        x.lies(1, 4);
        windsAre(x, 0, 0, 0, NONE);
        x.sweep();
        x.lies(2, 6);
        windsAre(x, 1, 1, 1, 0);
        x.wind(-1);
        windsAre(x, 1, 2, 2, 0);
        x.drop(2);
        windsAre(x, 0, 0, 0, NONE);
        x.sweep();
        x.lies(2, NONE);
        windsAre(x, 19, -9, 9, 1);
        x.drop(1);
        windsAre(x, 19, -9, 9, 0);
        due("winds(4)", x.winds(4), OUTSIDE);
        due("winds(-1)", x.winds(-1), OUTSIDE);
        due("without a LINE", new StockingLine().winds(0), STATE);
        due("outside without a LINE", new StockingLine().winds(4), OUTSIDE);
    }

    private static void tryOn() {
        promise = 26;
        StockingLine x = of(SMALL);
        for (int i = 1; i <= 8; i++) {
            due("tried " + i, x.tryOn(i % 2, i % 2, true), i);
        }
        due("tried 9", x.tryOn(0, 0, true), FULL);
        due("tried 9, unknown king", x.tryOn(2, 0, true), UNKNOWN);
        due("tried 9, unknown stocking", x.tryOn(0, 2, true), UNKNOWN);
        due("tried 9, unknown", x.tryOn(-1, -1, false), UNKNOWN);
        due("how much", x.count(9), 8);
        due("calves", x.king(0, 8), 0b0001111111);
        due("calves of the other", x.king(1, 8), 0b1111100000);
        due("without a LINE", new StockingLine().tryOn(0, 0, true), UNKNOWN);
    }

    private static void forget() {
        promise = 27;
        StockingLine x = of(SMALL);
        due("none", x.forget(), 0);
        x.tryOn(0, 0, true);
        x.tryOn(0, 1, true);
        x.lies(0, 0);
        due("forget", x.forget(), 2);
        due("again", x.forget(), 0);
        due("calves", x.king(0, 8), 1023);
        due("lies stays", x.count(8), 1);
        due("without a LINE", new StockingLine().forget(), 0);
    }

    private static void years() {
        promise = 28;
        StockingLine x = of("k500,k900;5010,6010,9020");
        // Seed 1: 1103527590, by 65536 is 16838, its rest by 5 is 3: a wind by 1.
        due("seed then", x.years(1, 1, 2), 1103527590);
        due("settled", x.years(1, 1, 0), 0);
        due("hang", x.years(1, 1, 1), 3);
        // Seed 0: 12345, a draw of 0: a wind by -2, two are OFF.
        due("seed of 0", x.years(1, 0, 2), 12345);
        due("hang by -2", x.years(1, 0, 1), 1);
        // By seed 1 winds go by 1, 1, 1, -2, -1, 0, -2: the last one has both down.
        StockingLine y = of("k500,k900;5000,5000");
        due("settled behind six", y.years(6, 1, 0), 6);
        due("two hang", y.years(6, 1, 1), 2);
        due("not behind the seventh", y.years(7, 1, 0), 6);
        due("none hang", y.years(7, 1, 1), 0);
        // Sizes 7 and 8 are both kings', 5 and 6 to 2 and 3 the first one's, less are nobody's.
        StockingLine z = of("k501,k901;7010,8010");
        due("disputed behind one", z.years(1, 1, 0), 0);
        due("settled behind two", z.years(2, 1, 0), 1);
        due("settled behind five", z.years(5, 1, 0), 4);
        due("regency behind six", z.years(6, 1, 0), 4);
        for (int i = 0; i < 99; i++) {
            y.wash();
        }
        due("years are no wash()", y.years(6, 1, 0), 6);
        due("nothing is done", x.count(6), 0);
        due("nor to sizes", x.count(3), 20);
        due("sixty", x.years(60, 1, 1), 0);
        due("the greatest seed", x.years(1, HIGH, 2), 1043980748);
        due("years(0)", x.years(0, 1, 0), OUTSIDE);
        due("years(61)", x.years(61, 1, 0), OUTSIDE);
        due("seed -1", x.years(1, -1, 0), OUTSIDE);
        due("what 3", x.years(1, 1, 3), OUTSIDE);
        due("what -1", x.years(1, 1, -1), OUTSIDE);
        due("without a LINE", new StockingLine().years(1, 1, 0), STATE);
        due("outside without a LINE", new StockingLine().years(1, 1, 3), OUTSIDE);
    }

    private static void image() {
        promise = 29;
        due("without a LINE", new StockingLine().image(), STATE);
        StockingLine x = of(SMALL);
        due("none changed", x.image(), 0);
        x.wash();
        x.darn(0);
        due("the latest", x.image(), 2);
        x.darn(0);
        due("back to the latest", x.restore(), 2);
    }

    private static void restore() {
        promise = 30;
        StockingLine x = of("k300,k800;3011,8121,5031");
        due("none was kept", x.restore(), STATE);
        x.wash();
        x.lies(0, 1);
        x.tryOn(0, 1, true);
        x.image();
        long was = x.digest();
        x.wash();
        x.starch(0, 3);
        x.darn(1);
        x.wind(-2);
        x.pin(0, 7);
        x.sweep();
        x.lies(1, 1);
        x.forget();
        x.tryOn(1, 0, false);
        x.tryOn(1, 1, false);
        due("restore", x.restore(), 1);
        due("all is as it was", x.digest(), was);
        x.drop(0);
        x.darn(2);
        due("once more", x.restore(), 1);
        due("all is as it was again", x.digest(), was);
        type(x, "k300");
        due("with a page", x.restore(), 1);
        due("the page stays", x.blank(), 4);
        type(x, "k300,k800;3011,8121,5031");
        x.line();
        due("behind a LINE of the same text", x.restore(), STATE);
    }

    private static void count() {
        promise = 31;
        StockingLine x = of("k300,k800,b900;3000,4000,8010,9010,1111");
        x.drop(4);
        x.wash();
        x.wind(1);
        x.pin(0, 9);
        x.starch(0, 0);
        x.darn(0);
        x.lies(0, 1);
        x.tryOn(0, 0, true);
        x.tryOn(0, 0, true);
        x.match(0);
        x.match(1);
        x.match(10);
        x.match(99);
        type(x, "kkkk");
        int[] told = {3, 5, 4, 23, 2, 1, 6, 1, 1, 2, 4, 1, 3};
        for (int what = 0; what < told.length; what++) {
            due("count(" + what + ")", x.count(what), told[what]);
        }
        due("count(13)", x.count(13), OUTSIDE);
        due("count(-1)", x.count(-1), OUTSIDE);
        due("without a LINE", new StockingLine().count(13), OUTSIDE);
    }

    private static long mixed(StockingLine x, String page) {
        long h = 1097;
        for (int k = 0; k < x.count(0); k++) {
            for (int what = 0; what <= 9; what++) {
                h = h * 31 + x.king(k, what);
            }
            h = (h * 31 + x.chance(k, 0)) * 31 + x.chance(k, 1);
            h = h * 31 + x.coup(k);
        }
        for (int s = 0; s < x.count(1); s++) {
            for (int what = 0; what <= 7; what++) {
                h = h * 31 + x.stocking(s, what);
            }
            for (int k = 0; k < x.count(0); k++) {
                h = h * 31 + x.wrong(k, s);
            }
        }
        if (x.count(0) > 0) {
            h = ((h * 31 + x.throne(0)) * 31 + x.throne(1)) * 31 + x.throne(2);
            h = ((h * 31 + x.dog(0)) * 31 + x.dog(1)) * 31 + x.fold();
            for (int what = 0; what <= 3; what++) {
                h = h * 31 + x.winds(what);
            }
        }
        for (int i = 0; i < page.length(); i++) {
            h = h * 31 + page.charAt(i);
        }
        for (int what = 0; what <= 12; what++) {
            h = h * 31 + x.count(what);
        }
        return h;
    }

    private static void digest() {
        promise = 32;
        StockingLine x = of(LARGE);
        due("digest", x.digest(), mixed(x, ""));
        due("again", x.digest(), mixed(x, ""));
        due("it does no match()", x.count(12), 0);
        x.wind(2);
        x.match(0);
        x.drop(0);
        x.lies(1, 4);
        x.tryOn(0, 2, true);
        type(x, "k30~ ");
        due("with a page", x.digest(), mixed(x, "k30~ "));
        StockingLine y = new StockingLine();
        type(y, "zZ");
        due("without a LINE", y.digest(), mixed(y, "zZ"));
    }

    private static void refusalsChangeNothing() {
        StockingLine x = of(LARGE);
        x.drop(5);
        x.image();
        type(x, "k3");
        long was = x.digest();
        int[] refused = {
            x.letter(31), x.line(), x.king(9, 0), x.king(0, 99), x.as(9, 0), x.as(0, 9), x.stocking(9, 0),
            x.stocking(0, 9), x.wrong(9, 0), x.wrong(0, 9), x.peg(10), x.starch(9, 0), x.starch(0, 9), x.darn(9),
            x.wind(10), x.pin(9, 9), x.pin(0, 10), x.pin(0, 1), x.drop(9), x.drop(5), x.throne(9), x.match(9),
            x.chance(9, 0), x.chance(0, 9), x.dog(9), x.coup(9), x.lies(9, 0), x.lies(0, 10), x.winds(9),
            x.tryOn(9, 0, true), x.tryOn(0, 9, true), x.years(0, 1, 0), x.years(1, -1, 0), x.years(1, 1, 9),
            x.count(99)};
        for (int i = 0; i < refused.length; i++) {
            due("refusal " + i, refused[i] <= UNKNOWN ? 1 : 0, 1);
        }
        due("refused calls change nothing", x.digest(), was);
        due("nor the image", x.restore(), 1);
    }
}
