/** One test for each sentence of the document's Terms that names an edge. */
public final class EdgeTermsTest {
    private static final int NONE = Edges.NONE, STATE = Edges.STATE, FULL = Edges.FULL;

    public static void main(String[] args) {
        theText();
        howWrong();
        thePegs();
        thePairs();
        whatIsDone();
        theMatch();
        theChance();
        theDog();
        theCoup();
        theFold();
        theLies();
        theTried();
        theYears();
        theImage();
        Edges.end();
    }

    private static void says(String words) {
        Edges.says("Terms", words);
    }

    private static void due(String call, long got, long want) {
        Edges.due(call, got, want);
    }

    private static StockingLine of(String text) {
        return Edges.of(text);
    }

    // ---- the text of a LINE

    private static void theText() {
        atFirstThereIsNone();
        howManyKings();
        calfStarchKnitter();
        sizeStarchKnitterHeel();
        howManyStockings();
        kindsByLetter();
        onlyCommasBetween();
        regentIsYoungToo();
    }

    private static void atFirstThereIsNone() {
        says("At first there is none.");
        StockingLine x = new StockingLine();
        due("kings", x.count(0), 0);
        due("stockings", x.count(1), 0);
        due("lines read", x.count(11), 0);
    }

    /** Which letters of all make a LINE of the text, if they are put at this place. */
    private static void onlyAt(int place, String text, String letters) {
        for (char code = 32; code <= 126; code++) {
            StringBuilder other = new StringBuilder(text);
            other.setCharAt(place, code);
            boolean may = letters.indexOf(code) >= 0;
            StockingLine x = Edges.typed(other.toString());
            due("fault() of " + other, x.fault(), may ? text.length() : place);
            due("line() of " + other, x.line(), may ? 2 : STATE);
        }
    }

    private static void howManyKings() {
        Edges.says("What it is", "two to four KINGS (numbered from 0) with \",\" between, each a letter, the KIND, "
            + "and three digits");
        String text = "k300";
        due("line() with one king", Edges.typed(text + ";3000,8000").line(), STATE);
        for (int many = 2; many <= 4; many++) {
            text += ",k300";
            StockingLine x = of(text + ";3000,8000");
            due("kings", x.count(0), many);
            due("the last one", x.king(many - 1, 1), 3);
            due("one more", x.king(many, 1), Edges.UNKNOWN);
        }
        due("line() with five kings", Edges.typed(text + ",k300;3000,8000").line(), STATE);
    }

    private static void calfStarchKnitter() {
        says("CALF (0 to 9), STARCH (0 to 4), KNITTER (0 to 3);");
        for (int king = 0; king < 2; king++) {
            onlyAt(5 * king + 1, Edges.SMALL, "0123456789");
            onlyAt(5 * king + 2, Edges.SMALL, "01234");
            onlyAt(5 * king + 3, Edges.SMALL, "0123");
        }
        StockingLine x = of("k943,k000;3000,8000");
        int[] most = {9, 4, 3};
        for (int what = 1; what <= 3; what++) {
            due("king(0, " + what + ")", x.king(0, what), most[what - 1]);
            due("king(1, " + what + ")", x.king(1, what), 0);
        }
    }

    private static void sizeStarchKnitterHeel() {
        says("four digits each: SIZE (0 to 9), STARCH, KNITTER (likewise), HEEL (1: it is worn; 0).");
        for (int stocking = 0; stocking < 2; stocking++) {
            int place = 10 + 5 * stocking;
            onlyAt(place, Edges.SMALL, "0123456789");
            onlyAt(place + 1, Edges.SMALL, "01234");
            onlyAt(place + 2, Edges.SMALL, "0123");
            onlyAt(place + 3, Edges.SMALL, "01");
        }
        StockingLine x = of("k300,k800;9431,0000");
        int[] most = {9, 4, 3, 1};
        for (int what = 0; what <= 3; what++) {
            due("stocking(0, " + what + ")", x.stocking(0, what), most[what]);
            due("stocking(1, " + what + ")", x.stocking(1, what), 0);
        }
    }

    private static void howManyStockings() {
        says("then \";\" and two to six STOCKINGS (numbered from 0) with \",\" between");
        String text = "k300,k800;3000";
        due("line() with one stocking", Edges.typed(text).line(), STATE);
        for (int many = 2; many <= 6; many++) {
            text += ",3000";
            StockingLine x = of(text);
            due("stockings", x.count(1), many);
            due("the last one", x.stocking(many - 1, 0), 3);
            due("one more", x.stocking(many, 0), Edges.UNKNOWN);
        }
        due("line() with seven stockings", Edges.typed(text + ",3000").line(), STATE);
    }

    private static void kindsByLetter() {
        says("KINDS are told by the letter: 0 KING \"k\", 1 LAME \"l\", 2 YOUNG \"y\", 3 BISHOP \"b\", 4 REGENT \"r\".");
        onlyAt(0, Edges.SMALL, "klybr");
        onlyAt(5, Edges.SMALL, "klybr");
        for (int kind = 0; kind <= 4; kind++) {
            due("kind", of("k300," + "klybr".charAt(kind) + "800;3000,8000").king(1, 0), kind);
        }
    }

    private static void onlyCommasBetween() {
        says("then \";\" and two to six STOCKINGS");
        String text = "k300,k800,k500;3000,8000";
        onlyAt(4, text, ",");
        onlyAt(19, text, ",");
        for (char code = 32; code <= 126; code++) {
            boolean both = code == ',' || code == ';';
            due("fault() behind two kings and " + code, Edges.typed("k300,k800" + code).fault(), both ? 10 : 9);
            due("line() with it", Edges.typed("k300,k800" + code + "3000,8000").line(), code == ';' ? 2 : STATE);
        }
    }

    private static void regentIsYoungToo() {
        says("All are KINGS; a REGENT is YOUNG, too.");
        StockingLine x = of("l300,y300,b300,r300;3000,8000");
        for (int king = 0; king < 4; king++) {
            due("as a KING", x.as(king, 0), king);
        }
        due("a REGENT as YOUNG", x.as(3, 2), 3);
        due("a YOUNG one as REGENT", x.as(1, 4), NONE);
    }

    // ---- how WRONG

    private static void howWrong() {
        apart();
        starchesUnlike();
        knittersUnlike();
        heelWorn();
        lame();
        young();
        bishop();
        regent();
        threeAtMost();
    }

    /** How WRONG the first stocking is for the first king. */
    private static void wrongBy(String king, String stocking, int wrong) {
        StockingLine x = of(king + ",k000;" + stocking + ",0000");
        due("wrong() of " + stocking + " for " + king, x.wrong(0, 0), wrong);
    }

    private static void apart() {
        says("as much as his CALF and its SIZE are apart;");
        wrongBy("k000", "0000", 0);
        wrongBy("k000", "9000", 9);
        wrongBy("k900", "0000", 9);
        wrongBy("k900", "9000", 0);
    }

    private static void starchesUnlike() {
        says("2 more if STARCHES are unlike;");
        wrongBy("k540", "5400", 0);
        wrongBy("k540", "5300", 2);
        wrongBy("k500", "5400", 2);
        wrongBy("l500", "5401", 2);
        wrongBy("y500", "3400", 2);
        wrongBy("r500", "3400", 2);
    }

    private static void knittersUnlike() {
        says("3 more if KNITTERS are;");
        wrongBy("k503", "5030", 0);
        wrongBy("k503", "5020", 3);
        wrongBy("k500", "5030", 3);
        wrongBy("l500", "5031", 3);
        wrongBy("y500", "3030", 3);
        wrongBy("b500", "5030", 3);
        wrongBy("k943", "0001", 15);
    }

    private static void heelWorn() {
        says("1 more if the HEEL is worn.");
        wrongBy("k500", "5001", 1);
        wrongBy("y500", "3001", 1);
        wrongBy("b500", "5001", 1);
        wrongBy("r500", "3001", 1);
    }

    private static void lame() {
        says("For a LAME one the HEEL counts 2, if it is not worn, and nothing, if it is;");
        wrongBy("l500", "5000", 2);
        wrongBy("l500", "5001", 0);
    }

    private static void young() {
        says("for a YOUNG one the CALF counts as if it was 2 less (0 at least);");
        wrongBy("y000", "0000", 0);
        wrongBy("y100", "0000", 0);
        wrongBy("y200", "0000", 0);
        wrongBy("y300", "0000", 1);
        wrongBy("y000", "1000", 1);
        wrongBy("y100", "1000", 1);
        wrongBy("y200", "1000", 1);
        wrongBy("y900", "9000", 2);
        wrongBy("y900", "7000", 0);
        wrongBy("r000", "0000", 0);
        wrongBy("r100", "0000", 0);
        wrongBy("r200", "0000", 0);
        wrongBy("r300", "0000", 1);
        wrongBy("l100", "0001", 1);
        wrongBy("b100", "0000", 1);
    }

    private static void bishop() {
        says("for a BISHOP STARCH does not count;");
        wrongBy("b500", "5400", 0);
        wrongBy("b500", "5410", 3);
    }

    private static void regent() {
        says("for a REGENT, a YOUNG one besides, KNITTERS do not count.");
        wrongBy("r500", "3030", 0);
        wrongBy("r500", "3431", 3);
        wrongBy("r500", "5030", 2);
    }

    private static void threeAtMost() {
        says("It MAY BE his, if it is WRONG by 3 at most.");
        StockingLine x = of("k500,k940;2000,1000,8000,9000,5101,5011");
        due("wrong by 3", x.wrong(0, 0), 3);
        due("wrong by 4", x.wrong(0, 1), 4);
        due("which may be his", x.king(0, 4), 0b010101);
        due("whose it may be, by 3", x.stocking(0, 5), 0b01);
        due("whose it may be, by 4", x.stocking(1, 5), 0b00);
    }

    // ---- PEGS

    private static void thePegs() {
        tenPegs();
        offOnesDoNotCount();
    }

    private static void tenPegs() {
        says("There are ten PEGS (0 to 9); at first STOCKING s hangs at PEG s.");
        StockingLine x = of(Edges.LARGE);
        for (int peg = 0; peg <= 9; peg++) {
            due("peg(" + peg + ")", x.peg(peg), peg < 6 ? peg : NONE);
        }
        for (int stocking = 0; stocking < 6; stocking++) {
            due("stocking(" + stocking + ", 4)", x.stocking(stocking, 4), stocking);
        }
        due("pin() to the last", x.pin(0, 9), 0);
        due("pin() to the first", x.pin(1, 0), 1);
    }

    private static void offOnesDoNotCount() {
        says("(what is told of the LINE, of PAIRS, and of the THRONE does not count it)");
        StockingLine x = of("k300,k900;3000,3000,5000");
        x.drop(1);
        due("that hang", x.count(2), 2);
        due("that match", x.count(4), 0);
        due("mates of one that hangs", x.stocking(0, 7), 0);
        due("mates of one that is OFF", x.stocking(1, 7), 0);
        due("pairs", x.king(0, 5), 0);
        due("the least wrong pair", x.king(0, 6), NONE);
        due("how wrong", x.king(0, 7), NONE);
        due("kings with a pair", x.count(5), 0);
        due("throne", x.throne(0), 0);
        due("whose", x.throne(1), NONE);
        due("who has a pair", x.throne(2), 0);
        due("match", x.match(0), 0);
        due("fold", x.fold(), 0);
        due("chance, above", x.chance(0, 0), 0);
    }

    // ---- PAIRS

    private static void thePairs() {
        oneApartMatches();
        twoThatHang();
        pairAsANumber();
        bothMayBeHis();
        howManyHaveAPair();
    }

    private static void matches(String one, String other, boolean so) {
        StockingLine x = of("k300,k800;" + one + "," + other);
        due(one + " and " + other, x.count(4), so ? 1 : 0);
        due("mates of the first", x.stocking(0, 7), so ? 0b10 : 0);
        due("mates of the second", x.stocking(1, 7), so ? 0b01 : 0);
    }

    private static void oneApartMatches() {
        says("MATCH, if they are of one STARCH and one KNITTER, and their SIZES are at most 1 apart.");
        matches("3000", "3000", true);
        matches("3000", "4000", true);
        matches("4000", "3000", true);
        matches("3000", "5000", false);
        matches("5000", "3000", false);
        matches("0430", "1431", true);
        matches("9430", "8430", true);
        matches("3000", "3100", false);
        matches("3000", "3010", false);
        matches("0000", "9000", false);
    }

    private static void twoThatHang() {
        says("Two that hang MATCH");
        for (int off = 0; off < 2; off++) {
            StockingLine x = of("k300,k800;3000,3000");
            x.drop(off);
            due("with " + off + " OFF", x.count(4), 0);
            x.pin(off, 9);
            due("with " + off + " on again", x.count(4), 1);
        }
    }

    private static void pairAsANumber() {
        says("A PAIR is a number: 10 times the lesser one of two that MATCH, and the greater one.");
        due("the least", of("k300,k900;3000,3000").king(0, 6), 1);
        due("the greatest", of("k300,k900;9430,9430,9430,9430,3000,3000").king(0, 6), 45);
        StockingLine x = of("k300,k900;3000,9430,3000");
        x.pin(0, 9);
        due("by numbers, not by pegs", x.king(0, 6), 2);
    }

    private static void bothMayBeHis() {
        says("It is a PAIR of a KING, if both MAY BE his; it is as WRONG as both together.");
        StockingLine x = of("k500,k900;8000,9000,2000,1000,3000,9430");
        // Of king 0: 8 by 3, 9 by 4, 2 by 3, 1 by 4, 3 by 2. Of king 1: 8 by 1, 9 by 0.
        due("pairs of the first", x.king(0, 5), 1);
        due("which", x.king(0, 6), 24);
        due("how wrong", x.king(0, 7), 5);
        due("pairs of the second", x.king(1, 5), 1);
        due("which of his", x.king(1, 6), 1);
        due("how wrong for him", x.king(1, 7), 1);
        due("as wrong as can be", of("k500,k900;2000,2000").king(0, 7), 6);
        due("the last two", of("k300,k900;9430,9430,9430,9430,3000,4000").king(0, 7), 1);
    }

    private static void howManyHaveAPair() {
        says("The THRONE: REGENCY, if no KING has a PAIR; SETTLED, if one has; DISPUTED, if more have.");
        String[] kings = {"k900,k900,k900,k900", "k300,k900,k900,k900", "k300,k300,k900,k900", "k300,k300,k300,k900",
            "k300,k300,k300,k300"};
        int[] how = {0, 1, 2, 2, 2};
        for (int many = 0; many <= 4; many++) {
            StockingLine x = of(kings[many] + ";3000,3000");
            due("throne with " + many, x.throne(0), how[many]);
            due("whose with " + many, x.throne(1), many == 1 ? 0 : NONE);
            due("who with " + many, x.throne(2), (1 << many) - 1);
            due("how many with " + many, x.count(5), many);
        }
        due("the last one's", of("k900,k900,k900,k300;3000,3000").throne(1), 3);
    }

    // ---- what is done

    private static void whatIsDone() {
        washToNothing();
        washOfKnitterNought();
        windOn();
        windBack();
        windOfNone();
        darned();
    }

    private static void washToNothing() {
        says("By a WASH the SIZE of each that hangs is 1 less (0 at least)");
        StockingLine x = of("k300,k800;0010,1020,2030,2030");
        x.drop(3);
        int[][] sizes = {{0, 0, 1, 2}, {0, 0, 0, 2}, {0, 0, 0, 2}};
        for (int[] told : sizes) {
            due("how many hang", x.wash(), 3);
            for (int stocking = 0; stocking < 4; stocking++) {
                due("size of " + stocking, x.stocking(stocking, 0), told[stocking]);
            }
        }
        due("all sizes", x.count(3), 2);
    }

    private static void washOfKnitterNought() {
        says("but not of those of KNITTER 0.");
        StockingLine x = of("k300,k800;0000,1000,9000,9010,9030");
        x.wash();
        int[] told = {0, 1, 9, 8, 8};
        for (int stocking = 0; stocking < 5; stocking++) {
            due("size of " + stocking, x.stocking(stocking, 0), told[stocking]);
        }
    }

    /** The first stocking at a peg, the other one OFF: where it hangs behind a wind. */
    private static void blown(int peg, int by, int then) {
        StockingLine x = of(Edges.SMALL);
        x.drop(1);
        if (peg != 0) {
            x.pin(0, peg);
        }
        due("wind(" + by + ") from " + peg, x.wind(by), then == NONE ? 1 : 0);
        due("where it is", x.stocking(0, 4), then);
        due("what hangs", x.count(2), then == NONE ? 0 : 1);
        due("OFF stays OFF", x.stocking(1, 4), NONE);
    }

    private static void windOn() {
        says("who would go beyond the last PEG, or the first, is OFF.");
        blown(8, 1, 9);
        blown(9, 1, NONE);
        blown(0, 9, 9);
        blown(1, 9, NONE);
        blown(9, 9, NONE);
    }

    private static void windBack() {
        says("By a WIND of so many PEGS (-9 to 9) each that hangs goes as many PEGS on (back, if it is less than 0);");
        blown(1, -1, 0);
        blown(0, -1, NONE);
        blown(9, -9, 0);
        blown(8, -9, NONE);
        blown(0, -9, NONE);
    }

    private static void windOfNone() {
        says("each that hangs goes as many PEGS on");
        blown(0, 0, 0);
        blown(9, 0, 9);
        StockingLine x = of(Edges.SMALL);
        Edges.dropAll(x);
        due("wind() where nothing hangs", x.wind(9), 0);
        due("back", x.wind(-9), 0);
        due("nothing hangs then", x.count(2), 0);
    }

    private static void darned() {
        says("A DARN makes a HEEL not worn.");
        StockingLine x = of("k300,k800;3001,8000");
        x.darn(0);
        x.darn(1);
        due("heel that was worn", x.stocking(0, 3), 0);
        due("heel that was not", x.stocking(1, 3), 0);
        x.darn(0);
        due("darned twice", x.stocking(0, 3), 0);
    }

    // ---- MATCH

    private static void theMatch() {
        oneEach();
        noStockingInTwo();
        mostKings();
        leastWrong();
        firstByNumbers();
        matchOfNothing();
    }

    private static void matched(String text, int many, int wrong, int... pairs) {
        StockingLine x = of(text);
        due("how many of " + text, x.match(0), many);
        due("by how much of " + text, x.match(1), wrong);
        for (int king = 0; king < 4; king++) {
            int pair = king < pairs.length ? pairs[king] : NONE;
            due("pair of king " + king + " of " + text, x.match(10 + king), pair);
        }
    }

    private static void oneEach() {
        says("(one each at most, no STOCKING in two)");
        matched("k300,k900;3000,3000,3000,3000", 1, 0, 1, NONE);
    }

    private static void noStockingInTwo() {
        says("no STOCKING in two");
        matched("k300,k300;3000,3000,3000", 1, 0, NONE, 1);
        matched("k300,k300;0430,2430,4430,3000,3000,3000", 1, 0, NONE, 34);
        matched("k300,k300,k300,k300;3000,3000,3000,3000,3000", 2, 0, NONE, NONE, 1, 23);
        matched("k300,k300,k300,k300;3000,3000,3000,3000,3000,3000", 3, 0, NONE, 1, 23, 45);
    }

    private static void mostKings() {
        says("so that most KINGS have one, of these so that all are WRONG by least:");
        matched("k500,k800;5000,5000,4000,4000", 2, 8, 23, 1);
        matched("k500,k300;7000,7000,5000,5000", 2, 8, 1, 23);
    }

    private static void leastWrong() {
        says("of these so that all are WRONG by least:");
        matched("k400,k300;3000,3000,4000,4000", 2, 0, 23, 1);
    }

    private static void firstByNumbers() {
        says("of like ones the first by numbers (none ahead of all; KING 0 first).");
        matched("k300,k300;3000,3000", 1, 0, NONE, 1);
        matched("k300,k300;3000,3000,3000,3000", 2, 0, 1, 23);
        matched("k300,k900;9430,3000,3000,3000", 1, 0, 12, NONE);
    }

    private static void matchOfNothing() {
        says("how many; by how much;");
        matched(Edges.SMALL, 0, 0);
        StockingLine x = of("k300,k300;3000,3000");
        Edges.dropAll(x);
        due("how many, if nothing hangs", x.match(0), 0);
        due("by how much, if nothing hangs", x.match(1), 0);
        due("pair, if nothing hangs", x.match(11), NONE);
    }

    // ---- CHANCE

    private static void theChance() {
        says("(in whole parts; 0 of 1, if fewer than two hang).");
        StockingLine x = of("k300,k900;3000,3000,9430");
        chanceIs(x, 0, 1, 3);
        chanceIs(x, 1, 0, 1);
        x.drop(2);
        chanceIs(x, 0, 1, 1);
        x.drop(1);
        chanceIs(x, 0, 0, 1);
        x.drop(0);
        chanceIs(x, 0, 0, 1);
        x.pin(2, 0);
        x.pin(1, 1);
        chanceIs(x, 0, 0, 1);
        lowestTerms();
    }

    private static void chanceIs(StockingLine x, int king, int above, int below) {
        due("chance(" + king + ", 0)", x.chance(king, 0), above);
        due("chance(" + king + ", 1)", x.chance(king, 1), below);
    }

    private static void lowestTerms() {
        says("two that hang are taken, one behind the other, each as likely:");
        chanceIs(of("k300,k900;3000,3000,3000,3000,3000,3000"), 0, 1, 1);
        chanceIs(of("k300,k900;3000,3000,3000,3000,3000,9430"), 0, 2, 3);
        chanceIs(of("k300,k900;3000,3000,3000,3000,9430,9430"), 0, 2, 5);
        chanceIs(of("k300,k900;3000,3000,3000,9430,9430,9430"), 0, 1, 5);
        chanceIs(of("k300,k900;3000,3000,9430,9430,9430,9430"), 0, 1, 15);
        chanceIs(of("k300,k900;3000,3000,3000,9430,9430"), 0, 3, 10);
        chanceIs(of("k300,k900;3000,3000,3100,3100"), 0, 1, 3);
    }

    // ---- DOG

    private static void theDog() {
        cannotBeKnown();
        nothingHangs();
        needsNoTry();
        triedByWhatIsKnown();
        likeOnesOfTheDog();
        asManyTriesAsKings();
    }

    private static void dogIs(StockingLine x, int few, int first) {
        due("dog(0)", x.dog(0), few);
        due("dog(1)", x.dog(1), first);
    }

    private static void cannotBeKnown() {
        says("none, if it cannot be known (or nothing hangs);");
        dogIs(of("k300,k800;3000,3000"), NONE, NONE);
        dogIs(of("k300,k800;3000,8000,8000"), NONE, NONE);
        dogIs(of("k300,k800;3000,5000,8000"), 2, 0);
    }

    private static void nothingHangs() {
        says("(or nothing hangs)");
        StockingLine x = of(Edges.SMALL);
        Edges.dropAll(x);
        dogIs(x, NONE, NONE);
    }

    private static void needsNoTry() {
        says("nobody, if it needs no try.");
        StockingLine x = of("k300,k800;3000,3000");
        x.drop(0);
        dogIs(x, 0, NONE);
        x.pin(0, 9);
        x.drop(1);
        dogIs(x, 0, NONE);
    }

    private static void triedByWhatIsKnown() {
        says("(the next one by what is known then)");
        // King 0 has stockings 0 and 1 apart from 2 and 3; of these king 2 knows, of those king 1.
        dogIs(of("k000,k300,k600;0000,3000,6000,9000"), 2, 0);
    }

    private static void likeOnesOfTheDog() {
        says("on which KING to try it first: of like ones the least;");
        dogIs(of(Edges.SMALL), 1, 0);
        dogIs(of("k500,k800,k800;4000,5000"), 1, 1);
    }

    private static void asManyTriesAsKings() {
        says("in how few tries, at worst, it is known which it is;");
        dogIs(of("k500,k511,k522,k533;5000,5110,5220,5330,9400"), 4, 0);
        dogIs(of("k500,k511,k522,k533;5000,5110,5220,5330,9400,9400"), NONE, NONE);
    }

    // ---- COUP

    private static void theCoup() {
        soAlready();
        noCoup();
        withSomeStarch();
        byADarn();
        leastCoup();
        coupOnOneThatHangs();
    }

    private static void soAlready() {
        says("100, if it is so already.");
        due("his alone", of("k300,k900;3000,3000").coup(0), 100);
        due("another's alone", of("k300,k900;3000,3000").coup(1), NONE);
        due("the last one's", of("k900,k900,k900,k300;3000,3000").coup(3), 100);
        due("disputed, the first", of("k300,k300;3000,3000").coup(0), NONE);
        due("disputed, the second", of("k300,k300;3000,3000").coup(1), NONE);
    }

    private static void noCoup() {
        says("by which single act the THRONE is SETTLED, and his:");
        due("nothing helps", of(Edges.SMALL).coup(0), NONE);
        due("a darn and a starch", of("k500,k943;2001,3400").coup(0), NONE);
        due("two darns", of("k500,k943;2001,2001").coup(0), NONE);
        due("two starches", of("k500,k943;2400,2400").coup(0), NONE);
        StockingLine x = of("k300,k900;3000,3100");
        Edges.dropAll(x);
        due("nothing hangs", x.coup(0), NONE);
    }

    private static void withSomeStarch() {
        says("STARCHING one that hangs with some STARCH (told as 10 times it, and the STARCH)");
        due("the least", of("k300,k900;3400,3000").coup(0), 0);
        // Of size 6 they are 3 apart from his calf, so that only with his own starch they may be his.
        for (int starch = 1; starch <= 4; starch++) {
            String text = "k3" + starch + "0,k900;6" + starch + "00,6000";
            due("starch " + starch, of(text).coup(0), 10 + starch);
            due("and the other king's", of(text).coup(1), 0);
        }
    }

    private static void byADarn() {
        says("or a DARN in one (10 times it, and 9):");
        due("in the first", of("k500,l000;2001,3000").coup(0), 9);
        due("in the last", of("k500,k943;0430,0430,0430,0430,3000,2001").coup(0), 59);
        due("against a lame one", of("k500,l800;5001,6001").coup(0), 9);
    }

    private static void leastCoup() {
        says("of like ones the least; none;");
        // A darn in 0 helps, and so does starch 0 in 1.
        due("9 ahead of 10", of("k500,k943;2001,3400,3000").coup(0), 9);
        due("10 without it", of("k500,k943;1001,3400,3000").coup(0), 10);
        // Starch 1 in stocking 0 helps, and starch 0 in stocking 1, and in both cases a darn does not.
        due("1 ahead of 10", of("k300,k900;3000,3100").coup(0), 1);
    }

    private static void coupOnOneThatHangs() {
        says("STARCHING one that hangs");
        for (int off = 0; off < 2; off++) {
            StockingLine x = of("k300,k900;3000,3100,3000,3300");
            x.drop(2);
            x.drop(3);
            due("both hang", x.coup(0), 1);
            x.drop(off);
            due("without " + off, x.coup(0), NONE);
            due("nothing is done", x.count(6), 3);
        }
    }

    // ---- FOLD

    private static void theFold() {
        says("as few as can be, so that nobody has a PAIR: as bits; of as few the least.");
        due("nobody has one", of(Edges.SMALL).fold(), 0);
        due("one of two", of("k300,k900;3000,3000").fold(), 0b01);
        due("the middle one", of("k300,k900;2000,3000,4000").fold(), 0b010);
        due("all but the last", of("k300,k900;3000,3000,3000,3000,3000,3000").fold(), 0b011111);
        due("nobody's match", of("k300,k900;3000,3000,6431,6431").fold(), 0b0001);
        foldOfThoseThatHang();
    }

    private static void foldOfThoseThatHang() {
        says("FOLD: which ones that hang to take OFF");
        StockingLine x = of("k300,k900;3000,3000,3000");
        due("all hang", x.fold(), 0b011);
        x.drop(0);
        due("two hang", x.fold(), 0b010);
        x.drop(1);
        due("one hangs", x.fold(), 0);
        x.drop(2);
        due("nothing hangs", x.fold(), 0);
    }

    // ---- LIES

    private static void theLies() {
        sixAtMost();
        nothingLies();
        theGreatestWinds();
        liesOff();
        asItIsWhenAsked();
        noWinds();
        fewestWindsLeft();
    }

    private static void sixAtMost() {
        says("LIES (6 at most)");
        StockingLine x = of(Edges.SMALL);
        for (int many = 1; many <= 6; many++) {
            due("lies() " + many, x.lies(0, 0), many);
        }
        due("lies() 7", x.lies(0, 0), FULL);
        x.sweep();
        due("lies() behind sweep()", x.lies(0, 0), 1);
    }

    private static void windsAre(StockingLine x, int many, int least, int greatest, int ask) {
        due("winds(0)", x.winds(0), many);
        due("winds(1)", x.winds(1), least);
        due("winds(2)", x.winds(2), greatest);
        due("winds(3)", x.winds(3), ask);
    }

    private static void nothingLies() {
        says("WINDS (-9 to 9) as can have been, so that all that LIES so would:");
        windsAre(of(Edges.SMALL), 19, -9, 9, 0);
        windsAre(of(Edges.LARGE), 19, -9, 9, 0);
    }

    private static void theGreatestWinds() {
        says("how many; the least; the greatest.");
        StockingLine x = of(Edges.SMALL);
        x.lies(0, 9);
        windsAre(x, 1, 9, 9, 0);
        x.sweep();
        x.pin(0, 9);
        x.lies(0, 0);
        windsAre(x, 1, -9, -9, 0);
        x.sweep();
        x.lies(0, 9);
        windsAre(x, 1, 0, 0, 0);
    }

    private static void liesOff() {
        says("a STOCKING hangs at a PEG, or is OFF (NONE).");
        StockingLine x = of(Edges.SMALL);
        x.lies(0, NONE);
        // Stocking 1 goes with -1 to peg 0, and with less it is OFF: eight are left.
        windsAre(x, 9, -9, -1, 1);
        x.lies(1, NONE);
        windsAre(x, 8, -9, -2, 0);
        x.sweep();
        x.lies(1, NONE);
        windsAre(x, 9, -9, 9, 0);
    }

    private static void asItIsWhenAsked() {
        says("that behind a WIND from how it is when that is asked, of which it is not known how it went,");
        StockingLine x = of(Edges.SMALL);
        x.lies(0, 5);
        windsAre(x, 1, 5, 5, 0);
        x.wash();
        x.starch(0, 4);
        x.darn(0);
        windsAre(x, 1, 5, 5, 0);
        x.pin(0, 9);
        windsAre(x, 1, -4, -4, 0);
        x.wind(-3);
        windsAre(x, 1, -1, -1, 0);
        x.drop(0);
        windsAre(x, 0, 0, 0, NONE);
    }

    private static void noWinds() {
        says("of like ones the least; none, if there are none.");
        StockingLine x = of(Edges.SMALL);
        x.lies(0, 5);
        x.lies(0, 6);
        windsAre(x, 0, 0, 0, NONE);
        StockingLine y = of(Edges.SMALL);
        y.drop(0);
        y.lies(0, NONE);
        windsAre(y, 19, -9, 9, 1);
        y.drop(1);
        windsAre(y, 19, -9, 9, 0);
    }

    private static void fewestWindsLeft() {
        says("ASK: of which STOCKING to ask where it is then, so that fewest of these are left at worst:");
        StockingLine x = of("k300,k900;3000,3000,9000");
        x.pin(1, 5);
        x.pin(2, 9);
        x.lies(0, NONE);
        // Of -9 to -1 stocking 1 is OFF by -9 to -6, stocking 2 by none.
        windsAre(x, 9, -9, -1, 2);
        x.pin(1, 8);
        // Stocking 1 is OFF by -9 alone, so one is left at worst by both.
        windsAre(x, 9, -9, -1, 1);
        x.pin(1, 7);
        // Stocking 1 is OFF by -9 and by -8.
        windsAre(x, 9, -9, -1, 2);
        x.pin(2, 8);
        windsAre(x, 9, -9, -1, 2);
    }

    // ---- TRIED

    private static void theTried() {
        eightAtMost();
        nothingTried();
        calvesNoughtToNine();
        allElseAsItIs();
        triedOnHim();
        noCalves();
        fewestCalvesLeft();
    }

    private static void eightAtMost() {
        says("TRIED (8 at most)");
        StockingLine x = of(Edges.SMALL);
        for (int many = 1; many <= 8; many++) {
            due("tryOn() " + many, x.tryOn(0, 0, true), many);
        }
        due("tryOn() 9", x.tryOn(0, 0, true), FULL);
        x.forget();
        due("tryOn() behind forget()", x.tryOn(0, 0, true), 1);
    }

    private static void calvesAre(StockingLine x, int king, int calves, int next) {
        due("king(" + king + ", 8)", x.king(king, 8), calves);
        due("king(" + king + ", 9)", x.king(king, 9), next);
    }

    private static void nothingTried() {
        says("CALVES (0 to 9) he can have, all else as it is when that is asked, so that all that is TRIED on him is so:");
        StockingLine x = of(Edges.SMALL);
        // Size 3 may be theirs with seven calves, size 8 with five.
        calvesAre(x, 0, 0b1111111111, 1);
        calvesAre(x, 1, 0b1111111111, 1);
    }

    private static void calvesNoughtToNine() {
        says("CALVES (0 to 9) he can have");
        StockingLine x = of("k500,y500;0000,9000");
        x.tryOn(0, 0, true);
        due("of size 0", x.king(0, 8), 0b0000001111);
        x.tryOn(1, 0, true);
        due("young, of size 0", x.king(1, 8), 0b0000111111);
        x.forget();
        x.tryOn(0, 1, true);
        due("of size 9", x.king(0, 8), 0b1111000000);
        x.tryOn(1, 1, true);
        due("young, of size 9", x.king(1, 8), 0b1100000000);
        x.forget();
        x.tryOn(0, 0, false);
        due("not of size 0", x.king(0, 8), 0b1111110000);
        x.tryOn(0, 1, false);
        due("nor of size 9", x.king(0, 8), 0b0000110000);
    }

    private static void allElseAsItIs() {
        says("all else as it is when that is asked");
        StockingLine x = of("k501,k900;5011,9000");
        x.tryOn(0, 0, true);
        due("worn", x.king(0, 8), 0b0011111000);
        x.darn(0);
        due("darned", x.king(0, 8), 0b0111111100);
        x.starch(0, 1);
        due("starched", x.king(0, 8), 0b0001110000);
        x.wash();
        due("washed", x.king(0, 8), 0b0000111000);
        x.pin(0, 9);
        x.wind(-1);
        due("elsewhere", x.king(0, 8), 0b0000111000);
        x.drop(0);
        due("OFF", x.king(0, 8), 0b0000111000);
    }

    private static void triedOnHim() {
        says("so that all that is TRIED on him is so");
        StockingLine x = of(Edges.SMALL);
        x.tryOn(0, 0, true);
        due("tried on him", x.king(0, 8), 0b0001111111);
        due("tried on another", x.king(1, 8), 0b1111111111);
    }

    private static void noCalves() {
        says("of like ones the least; none, if there are none.");
        StockingLine x = of(Edges.SMALL);
        x.tryOn(0, 0, true);
        x.tryOn(0, 0, false);
        calvesAre(x, 0, 0, NONE);
        calvesAre(x, 1, 0b1111111111, 1);
        StockingLine y = of("k300,k800;3000,3000");
        calvesAre(y, 0, 0b1111111111, 0);
        // No calf makes these his, so that a trial tells nothing.
        StockingLine z = of("k300,k800;3110,3110");
        calvesAre(z, 0, 0b1111111111, 0);
    }

    private static void fewestCalvesLeft() {
        says("TRY: which STOCKING (OFF or not) to try on him, so that fewest of these are left at worst:");
        StockingLine x = of("k500,k900;4000,8000,9000");
        // May be his with 1 to 7, with 5 to 9, with 6 to 9: at worst 7, 5 and 6 are left.
        calvesAre(x, 0, 0b1111111111, 1);
        x.drop(1);
        calvesAre(x, 0, 0b1111111111, 1);
        x.tryOn(0, 1, true);
        // Of 5 to 9 the first may be with 5 to 7, the last with 6 to 9.
        calvesAre(x, 0, 0b1111100000, 0);
    }

    // ---- YEARS

    private static void theYears() {
        drawsOfFive();
        restByTwoToThe31();
        roundedDown();
        settledBehindSome();
        yearsAreNotDone();
        yearsWhereNothingHangs();
    }

    /** Two hang at the first pegs, or at the last ones. */
    private static StockingLine atBothEnds(boolean first) {
        StockingLine x = of("k300,k900;3000,3000");
        if (!first) {
            x.pin(0, 8);
            x.pin(1, 9);
        }
        return x;
    }

    private static void drawsOfFive() {
        says("in each there is a WIND by 2 less than a DRAW of 5, then a WASH:");
        int[] seeds = {0, 6, 3, 1, 7};
        for (int draw = 0; draw < 5; draw++) {
            drawn(seeds[draw], draw);
        }
    }

    private static void drawn(int seed, int draw) {
        int[] hangFirst = {0, 1, 2, 2, 2};
        int[] hangLast = {2, 2, 2, 1, 0};
        due("seed " + seed + ", at the first", atBothEnds(true).years(1, seed, 1), hangFirst[draw]);
        due("seed " + seed + ", at the last", atBothEnds(false).years(1, seed, 1), hangLast[draw]);
    }

    private static void roundedDown() {
        says("then that by 65536 (rounded down), its rest.");
        // The next seeds are 0, 65535, 65536, 131071, 131072 and so on, and at last 2 to the 31, less 1.
        int[] firsts = {2088216195, 1742513795, 1396811395, 1051108995, 705406595, 359704195};
        int[] lasts = {2032319262, 1686616862, 1340914462, 995212062, 649509662, 303807262};
        for (int part = 0; part < 6; part++) {
            due("the next seed", of(Edges.SMALL).years(1, firsts[part], 2), part * 65536);
            drawn(firsts[part], part % 5);
            due("the last of them", of(Edges.SMALL).years(1, lasts[part], 2), part * 65536 + 65535);
            drawn(lasts[part], part % 5);
        }
        due("the greatest next seed", of(Edges.SMALL).years(1, 230538014, 2), Edges.HIGH);
        drawn(230538014, 32767 % 5);
    }

    private static void restByTwoToThe31() {
        says("1103515245 times it and 12345, its rest by 2 to the 31;");
        StockingLine x = of(Edges.SMALL);
        for (int seed : new int[] {0, 1, 2, 65535, 65536, 1 << 30, Edges.HIGH - 1, Edges.HIGH}) {
            java.math.BigInteger next = java.math.BigInteger.valueOf(seed);
            for (int years = 1; years <= 3; years++) {
                next = next.multiply(java.math.BigInteger.valueOf(1103515245L)).add(java.math.BigInteger.valueOf(12345L))
                    .mod(java.math.BigInteger.TWO.pow(31));
                due("seed behind " + years + " from " + seed, x.years(years, seed, 2), next.longValue());
            }
        }
    }

    private static void settledBehindSome() {
        says("(one by one; it may be so behind one, and not behind the next one)");
        // By seed 1 winds go by 1, 1, 1, -2, -1, 0, -2; sizes 7 and 8 are both kings', 5 and 6 to 2 and 3 the first's.
        StockingLine x = of("k501,k901;7010,8010");
        int[] settled = {0, 1, 2, 3, 4, 4};
        for (int years = 1; years <= 6; years++) {
            due("years(" + years + ")", x.years(years, 1, 0), settled[years - 1]);
        }
        // That wash() is FULL is told of wash() alone.
        Edges.dropAll(x);
        for (int washes = 1; washes <= 99; washes++) {
            x.wash();
        }
        x.pin(0, 0);
        x.pin(1, 1);
        for (int years = 1; years <= 6; years++) {
            due("years(" + years + ") behind 99 washes", x.years(years, 1, 0), settled[years - 1]);
        }
    }

    private static void yearsAreNotDone() {
        says("YEARS by a SEED, as they would be:");
        StockingLine x = of("k500,k900;5010,6010,9020");
        x.lies(0, 3);
        x.tryOn(0, 0, true);
        long was = x.digest();
        x.years(60, 1, 0);
        x.years(60, 1, 1);
        x.years(60, 1, 2);
        due("digest()", x.digest(), was);
    }

    private static void yearsWhereNothingHangs() {
        says("how many STOCKINGS hang in the end.");
        StockingLine x = of("k300,k900;3000,3000");
        due("both hang", x.years(1, 1, 1), 2);
        Edges.dropAll(x);
        due("nothing hangs", x.years(1, 1, 1), 0);
        due("nothing is settled", x.years(1, 1, 0), 0);
        due("the seed goes on", x.years(1, 1, 2), 1103527590);
    }

    // ---- IMAGE

    private static void theImage() {
        says("An IMAGE keeps SIZES, STARCHES and HEELS of STOCKINGS, PEGS, how often anything was changed, WASHES, "
            + "what LIES, what is TRIED.");
        for (int last = 0; last < 3; last++) {
            StockingLine x = changedSinceTheImage();
            due("restore()", x.restore(), 2);
            due("size", x.stocking(last, 0), 7);
            due("starch", x.stocking(last, 1), 2);
            due("heel", x.stocking(last, 3), 1);
            due("peg", x.stocking(last, 4), last == 0 ? NONE : last);
            due("changes", x.count(6), 2);
            due("washes", x.count(7), 1);
            due("what lies", x.count(8), 1);
            due("where it lies", x.winds(1), 4);
            due("what is tried", x.count(9), 1);
            due("how it is tried", x.king(1, 8), 0b1111100000);
        }
        whatNoImageKeeps();
    }

    /** Behind the image all of it is changed. */
    private static StockingLine changedSinceTheImage() {
        StockingLine x = of("k500,k821;7211,8211,8221");
        x.drop(0);
        x.wash();
        x.lies(1, 5);
        x.tryOn(1, 1, true);
        x.image();
        x.pin(0, 7);
        for (int stocking = 0; stocking < 3; stocking++) {
            x.starch(stocking, 4);
            x.darn(stocking);
        }
        x.wash();
        x.wind(1);
        x.sweep();
        x.lies(2, 0);
        x.lies(1, 0);
        x.forget();
        x.tryOn(0, 2, false);
        x.tryOn(1, 0, false);
        return x;
    }

    private static void whatNoImageKeeps() {
        says("An IMAGE keeps SIZES, STARCHES and HEELS of STOCKINGS");
        StockingLine x = of(Edges.SMALL);
        Edges.type(x, "k");
        x.image();
        x.match(0);
        Edges.type(x, "30");
        x.restore();
        due("letters of THE PAGE", x.count(10), 3);
        due("how often match() was done", x.count(12), 1);
        due("how often a LINE was read", x.count(11), 1);
    }
}
