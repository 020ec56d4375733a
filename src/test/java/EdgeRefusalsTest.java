import java.util.ArrayList;
import java.util.List;

/**
 * Every way in which a call is refused: by which of several reasons, and that nothing has changed behind it. For each
 * refused call two objects are made alike; on one of them the call is made, and then both have to tell the same.
 */
public final class EdgeRefusalsTest {
    private static final int NONE = Edges.NONE, UNKNOWN = Edges.UNKNOWN, OUTSIDE = Edges.OUTSIDE;
    private static final int STATE = Edges.STATE, FULL = Edges.FULL, LOW = Edges.LOW, HIGH = Edges.HIGH;

    private static final int[] ANY = {LOW, -2, -1, 0, 1, 5, 9, 10, 13, 14, 60, 61, HIGH};

    private interface Setting {
        void make(StockingLine x);
    }

    private interface Call {
        long on(StockingLine x);
    }

    public static void main(String[] args) {
        withoutALine(x -> { }, "a new object");
        withoutALine(x -> Edges.type(x, "k3"), "letters, but no LINE");
        withoutALine(EdgeRefusalsTest::refusedLine, "a LINE that is none");
        numbersThatNameNothing(EdgeRefusalsTest::inUse, 4, 6);
        numbersThatNameNothing(EdgeRefusalsTest::full, 2, 2);
        numbersThatNameNothing(EdgeRefusalsTest::nothingHangs, 3, 3);
        numbersNotAsTold(EdgeRefusalsTest::inUse);
        numbersNotAsTold(EdgeRefusalsTest::full);
        numbersNotAsTold(EdgeRefusalsTest::nothingHangs);
        whatIsFull();
        whatIsOff();
        whereOneHangs();
        linesThatAreNone();
        imagesThatAreNone();
        Edges.end();
    }

    private static void says(String words) {
        Edges.says("Terms", words);
    }

    // ---- how it is ahead of the call

    private static void refusedLine(StockingLine x) {
        Edges.type(x, "k300,k800;3000");
        x.line();
    }

    /** Something of all there is, with an image that is not as it is now. */
    private static void inUse(StockingLine x) {
        Edges.read(x, Edges.LARGE);
        x.wash();
        x.lies(1, 0);
        x.tryOn(1, 1, true);
        x.image();
        x.starch(0, 2);
        x.darn(1);
        x.pin(2, 8);
        x.drop(5);
        x.lies(3, 2);
        x.tryOn(3, 3, false);
        x.match(0);
        Edges.type(x, "k3");
    }

    /** As much of all as there can be. */
    private static void full(StockingLine x) {
        Edges.read(x, "k300,k801;3010,8010");
        x.image();
        // One that is OFF keeps its size, so that a wash more could be seen.
        x.drop(0);
        for (int many = 1; many <= 99; many++) {
            x.wash();
        }
        x.pin(0, 0);
        for (int many = 1; many <= 6; many++) {
            x.lies(0, 4);
        }
        for (int many = 1; many <= 8; many++) {
            x.tryOn(0, 0, true);
        }
        for (int many = 1; many <= 20; many++) {
            x.match(0);
        }
        for (int many = 1; many <= 52; many++) {
            x.letter('k');
        }
    }

    private static void nothingHangs(StockingLine x) {
        Edges.read(x, "k300,l800,r500;3001,8000,3001");
        x.image();
        Edges.dropAll(x);
    }

    // ---- that nothing has changed

    private static void refused(Setting setting, String call, Call made, int want) {
        StockingLine one = new StockingLine();
        StockingLine other = new StockingLine();
        setting.make(one);
        setting.make(other);
        Edges.due(call, made.on(one), want);
        List<Long> told = allThatIsTold(one);
        List<Long> due = allThatIsTold(other);
        for (int at = 0; at < due.size(); at++) {
            Edges.due("number " + at + " of all that is told behind " + call, told.get(at), due.get(at));
        }
    }

    /** What is told now, then what is told of what is hidden behind it: of the image, of what LIES and is TRIED. */
    private static List<Long> allThatIsTold(StockingLine x) {
        List<Long> told = new ArrayList<>();
        tellNow(x, told);
        told.add((long) x.restore());
        tellNow(x, told);
        told.add((long) x.match(0));
        told.add((long) x.sweep());
        told.add((long) x.forget());
        told.add((long) x.wash());
        told.add((long) x.lies(0, 0));
        told.add((long) x.tryOn(0, 0, true));
        told.add((long) x.restore());
        told.add(x.digest());
        told.add((long) x.blank());
        told.add((long) x.line());
        return told;
    }

    private static void tellNow(StockingLine x, List<Long> told) {
        told.add(x.digest());
        told.add((long) x.fault());
        for (int peg = 0; peg <= 9; peg++) {
            told.add((long) x.peg(peg));
        }
        for (int what = 0; what <= 12; what++) {
            told.add((long) x.count(what));
        }
        told.add((long) x.years(3, 1, 0));
        told.add((long) x.years(3, 1, 1));
    }

    // ---- without a LINE

    private static void withoutALine(Setting setting, String name) {
        says("UNKNOWN (a number names nothing), OUTSIDE (it is not as told), STATE (as told), FULL; they change nothing.");
        for (int number : ANY) {
            for (int what : new int[] {-1, 0, 99}) {
                String at = "(" + number + ", " + what + ") of " + name;
                refused(setting, "king" + at, x -> x.king(number, what), UNKNOWN);
                refused(setting, "as" + at, x -> x.as(number, what), UNKNOWN);
                refused(setting, "stocking" + at, x -> x.stocking(number, what), UNKNOWN);
                refused(setting, "wrong" + at, x -> x.wrong(number, what), UNKNOWN);
                refused(setting, "starch" + at, x -> x.starch(number, what), UNKNOWN);
                refused(setting, "pin" + at, x -> x.pin(number, what), UNKNOWN);
                refused(setting, "chance" + at, x -> x.chance(number, what), UNKNOWN);
                refused(setting, "lies" + at, x -> x.lies(number, what), UNKNOWN);
                refused(setting, "tryOn" + at, x -> x.tryOn(number, what, true), UNKNOWN);
            }
            String at = "(" + number + ") of " + name;
            refused(setting, "peg" + at, x -> x.peg(number), UNKNOWN);
            refused(setting, "darn" + at, x -> x.darn(number), UNKNOWN);
            refused(setting, "drop" + at, x -> x.drop(number), UNKNOWN);
            refused(setting, "coup" + at, x -> x.coup(number), UNKNOWN);
        }
        stateWithoutALine(setting, name);
        outsideWithoutALine(setting, name);
    }

    private static void stateWithoutALine(Setting setting, String name) {
        refused(setting, "line() of " + name, x -> x.line(), STATE);
        refused(setting, "wash() of " + name, x -> x.wash(), STATE);
        refused(setting, "wind(0) of " + name, x -> x.wind(0), STATE);
        refused(setting, "wind(9) of " + name, x -> x.wind(9), STATE);
        refused(setting, "wind(-9) of " + name, x -> x.wind(-9), STATE);
        refused(setting, "throne(0) of " + name, x -> x.throne(0), STATE);
        refused(setting, "throne(2) of " + name, x -> x.throne(2), STATE);
        refused(setting, "match(0) of " + name, x -> x.match(0), STATE);
        refused(setting, "match(13) of " + name, x -> x.match(13), STATE);
        refused(setting, "dog(0) of " + name, x -> x.dog(0), STATE);
        refused(setting, "dog(1) of " + name, x -> x.dog(1), STATE);
        refused(setting, "fold() of " + name, x -> x.fold(), STATE);
        refused(setting, "winds(0) of " + name, x -> x.winds(0), STATE);
        refused(setting, "winds(3) of " + name, x -> x.winds(3), STATE);
        refused(setting, "years(1, 0, 0) of " + name, x -> x.years(1, 0, 0), STATE);
        refused(setting, "years(60, HIGH, 2) of " + name, x -> x.years(60, HIGH, 2), STATE);
        refused(setting, "image() of " + name, x -> x.image(), STATE);
        refused(setting, "restore() of " + name, x -> x.restore(), STATE);
    }

    private static void outsideWithoutALine(Setting setting, String name) {
        says("Refusals, of several the first as told by each call:");
        refused(setting, "wind(10) of " + name, x -> x.wind(10), OUTSIDE);
        refused(setting, "throne(3) of " + name, x -> x.throne(3), OUTSIDE);
        refused(setting, "match(14) of " + name, x -> x.match(14), OUTSIDE);
        refused(setting, "dog(2) of " + name, x -> x.dog(2), OUTSIDE);
        refused(setting, "winds(4) of " + name, x -> x.winds(4), OUTSIDE);
        refused(setting, "years(0, 0, 0) of " + name, x -> x.years(0, 0, 0), OUTSIDE);
        refused(setting, "years(61, 0, 0) of " + name, x -> x.years(61, 0, 0), OUTSIDE);
        refused(setting, "years(1, -1, 0) of " + name, x -> x.years(1, -1, 0), OUTSIDE);
        refused(setting, "years(1, 0, 3) of " + name, x -> x.years(1, 0, 3), OUTSIDE);
        refused(setting, "count(13) of " + name, x -> x.count(13), OUTSIDE);
        refused(setting, "count(-1) of " + name, x -> x.count(-1), OUTSIDE);
        refused(setting, "letter(31) of " + name, x -> x.letter(31), OUTSIDE);
        refused(setting, "letter(127) of " + name, x -> x.letter(127), OUTSIDE);
    }

    // ---- UNKNOWN, ahead of all else

    private static void numbersThatNameNothing(Setting setting, int kings, int stockings) {
        says("UNKNOWN (a number names nothing)");
        for (int second : new int[] {LOW, -1, 0, 9, 10, 99, HIGH}) {
            for (int king : new int[] {LOW, -1, kings, HIGH}) {
                String at = "(" + king + ", " + second + ")";
                refused(setting, "king" + at, x -> x.king(king, second), UNKNOWN);
                refused(setting, "as" + at, x -> x.as(king, second), UNKNOWN);
                refused(setting, "chance" + at, x -> x.chance(king, second), UNKNOWN);
                refused(setting, "wrong" + at, x -> x.wrong(king, second), UNKNOWN);
                refused(setting, "tryOn" + at, x -> x.tryOn(king, second, false), UNKNOWN);
            }
            for (int stocking : new int[] {LOW, -1, stockings, HIGH}) {
                String at = "(" + stocking + ", " + second + ")";
                refused(setting, "stocking" + at, x -> x.stocking(stocking, second), UNKNOWN);
                refused(setting, "starch" + at, x -> x.starch(stocking, second), UNKNOWN);
                refused(setting, "pin" + at, x -> x.pin(stocking, second), UNKNOWN);
                refused(setting, "lies" + at, x -> x.lies(stocking, second), UNKNOWN);
            }
        }
        oneNumberAlone(setting, kings, stockings);
    }

    private static void oneNumberAlone(Setting setting, int kings, int stockings) {
        for (int king : new int[] {LOW, -1, kings, HIGH}) {
            refused(setting, "coup(" + king + ")", x -> x.coup(king), UNKNOWN);
        }
        for (int stocking : new int[] {LOW, -1, stockings, HIGH}) {
            refused(setting, "darn(" + stocking + ")", x -> x.darn(stocking), UNKNOWN);
            refused(setting, "drop(" + stocking + ")", x -> x.drop(stocking), UNKNOWN);
            refused(setting, "wrong(0, " + stocking + ")", x -> x.wrong(0, stocking), UNKNOWN);
            refused(setting, "tryOn(0, " + stocking + ")", x -> x.tryOn(0, stocking, true), UNKNOWN);
        }
        for (int peg : new int[] {LOW, -1, 10, HIGH}) {
            refused(setting, "peg(" + peg + ")", x -> x.peg(peg), UNKNOWN);
            refused(setting, "pin(0, " + peg + ")", x -> x.pin(0, peg), UNKNOWN);
        }
    }

    // ---- OUTSIDE, ahead of STATE and FULL

    private static void numbersNotAsTold(Setting setting) {
        says("OUTSIDE (it is not as told)");
        outside(setting, "letter", new int[] {LOW, -1, 31, 127, HIGH}, (x, n) -> x.letter(n));
        outside(setting, "king 0,", new int[] {LOW, -1, 10, HIGH}, (x, n) -> x.king(0, n));
        outside(setting, "as 0,", new int[] {LOW, -1, 5, HIGH}, (x, n) -> x.as(0, n));
        outside(setting, "stocking 0,", new int[] {LOW, -1, 8, HIGH}, (x, n) -> x.stocking(0, n));
        outside(setting, "starch 0,", new int[] {LOW, -1, 5, HIGH}, (x, n) -> x.starch(0, n));
        outside(setting, "wind", new int[] {LOW, -10, 10, HIGH}, (x, n) -> x.wind(n));
        outside(setting, "throne", new int[] {LOW, -1, 3, HIGH}, (x, n) -> x.throne(n));
        outside(setting, "match", new int[] {LOW, -1, 2, 9, 14, HIGH}, (x, n) -> x.match(n));
        outside(setting, "chance 0,", new int[] {LOW, -1, 2, HIGH}, (x, n) -> x.chance(0, n));
        outside(setting, "dog", new int[] {LOW, -1, 2, HIGH}, (x, n) -> x.dog(n));
        outside(setting, "lies 0,", new int[] {LOW, -2, 10, HIGH}, (x, n) -> x.lies(0, n));
        outside(setting, "winds", new int[] {LOW, -1, 4, HIGH}, (x, n) -> x.winds(n));
        outside(setting, "years", new int[] {LOW, -1, 0, 61, HIGH}, (x, n) -> x.years(n, 1, 0));
        outside(setting, "years 1,", new int[] {LOW, -1}, (x, n) -> x.years(1, n, 0));
        outside(setting, "years 1, 1,", new int[] {LOW, -1, 3, HIGH}, (x, n) -> x.years(1, 1, n));
        outside(setting, "count", new int[] {LOW, -1, 13, HIGH}, (x, n) -> x.count(n));
    }

    private interface CallWith {
        long on(StockingLine x, int number);
    }

    private static void outside(Setting setting, String call, int[] numbers, CallWith made) {
        for (int number : numbers) {
            refused(setting, call + " " + number, x -> made.on(x, number), OUTSIDE);
        }
    }

    // ---- FULL and STATE

    private static void whatIsFull() {
        says("FULL; they change nothing.");
        Setting full = EdgeRefusalsTest::full;
        refused(full, "letter 53", x -> x.letter('z'), FULL);
        refused(full, "letter 53, the least", x -> x.letter(32), FULL);
        refused(full, "letter 53, the greatest", x -> x.letter(126), FULL);
        refused(full, "wash() 100", x -> x.wash(), FULL);
        refused(full, "lies() 7", x -> x.lies(1, 5), FULL);
        refused(full, "lies() 7, OFF", x -> x.lies(1, NONE), FULL);
        refused(full, "lies() 7, the same", x -> x.lies(0, 4), FULL);
        refused(full, "tryOn() 9", x -> x.tryOn(1, 1, false), FULL);
        refused(full, "tryOn() 9, the same", x -> x.tryOn(0, 0, true), FULL);
        says("STATE (as told)");
        refused(full, "match() 21", x -> x.match(0), STATE);
        refused(full, "match() 21, of the last king", x -> x.match(13), STATE);
        refused(full, "line() of fifty-two letters", x -> x.line(), STATE);
    }

    private static void whatIsOff() {
        says("STATE (as told), FULL; they change nothing.");
        Setting off = EdgeRefusalsTest::nothingHangs;
        for (int stocking = 0; stocking < 3; stocking++) {
            int one = stocking;
            refused(off, "drop(" + one + ")", x -> x.drop(one), STATE);
        }
    }

    private static void whereOneHangs() {
        says("STATE (as told), FULL;");
        Setting inUse = EdgeRefusalsTest::inUse;
        // Stocking 2 is at peg 8, stocking 5 is OFF.
        int[] pegs = {0, 1, 8, 3, 4};
        for (int peg : pegs) {
            for (int stocking = 0; stocking < 6; stocking++) {
                int one = stocking;
                refused(inUse, "pin(" + one + ", " + peg + ")", x -> x.pin(one, peg), STATE);
            }
        }
    }

    private static void linesThatAreNone() {
        says("they change nothing.");
        String[] texts = {"", "k", "k300,k800", "k300,k800;3000", "k300;3000,8000", "k300,k800;3000,8000,"};
        for (String text : texts) {
            Setting setting = x -> {
                inUse(x);
                x.blank();
                Edges.type(x, text);
            };
            refused(setting, "line() of " + text, x -> x.line(), STATE);
        }
    }

    private static void imagesThatAreNone() {
        says("STATE (as told)");
        refused(x -> Edges.read(x, Edges.SMALL), "restore() of none", x -> x.restore(), STATE);
        Setting readSince = x -> {
            inUse(x);
            Edges.read(x, Edges.LARGE);
            x.wash();
            x.drop(0);
            x.lies(1, 2);
            x.tryOn(0, 0, true);
        };
        refused(readSince, "restore() behind a LINE", x -> x.restore(), STATE);
    }
}
