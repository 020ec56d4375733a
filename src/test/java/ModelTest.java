import java.util.ArrayList;
import java.util.HashMap;
import java.util.List;
import java.util.Map;
import java.util.Random;
import java.util.regex.Matcher;
import java.util.regex.Pattern;

/**
 * Long runs of calls by chance (always the same ones), each answered by the class and by a slow model that is
 * written from the document on its own, by other means: texts, lists and trying out.
 */
public final class ModelTest {
    private static final int RUNS = 4000;
    private static final int MOST_CALLS = 512;
    private static int wrong = 0;

    public static void main(String[] args) {
        for (int run = 0; run < RUNS && wrong < 20; run++) {
            new Run(run).play();
        }
        System.out.println(wrong == 0 ? "class and model agree" : wrong + " answers are not as the model's");
        if (wrong != 0) {
            System.exit(1);
        }
    }

    /** One run on a new object. */
    private static final class Run {
        final int number;
        final Random chance;
        final StockingLine line = new StockingLine();
        final Model model = new Model();
        final StringBuilder told = new StringBuilder();
        int calls = 0;

        Run(int number) {
            this.number = number;
            this.chance = new Random(1097L * number + 5);
        }

        void play() {
            if (chance.nextInt(4) == 0) {
                for (int i = chance.nextInt(6); i > 0; i--) {
                    anyCall();
                }
            }
            write(textOfLine());
            due("line()", line.line(), model.line());
            int most = chance.nextInt(4) == 0 ? MOST_CALLS - 120 : 150;
            while (calls < most && wrong == 0) {
                anyCall();
                if (chance.nextInt(40) == 0) {
                    write(chance.nextBoolean() ? textOfLine() : spoilt(textOfLine()));
                    due("fault()", line.fault(), model.fault());
                    due("line()", line.line(), model.line());
                }
            }
            due("digest()", line.digest(), model.digest());
        }

        void due(String call, long got, long want) {
            calls++;
            told.append(call).append(" -> ").append(got).append('\n');
            if (got != want) {
                wrong++;
                System.out.println("run " + number + ": " + call + " answered " + got + ", the model " + want);
                System.out.println(told);
            }
        }

        void write(String text) {
            if (chance.nextInt(8) != 0) {
                due("blank()", line.blank(), model.blank());
            }
            for (char c : text.toCharArray()) {
                due("letter(" + (int) c + ")", line.letter(c), model.letter(c));
            }
        }

        /** Kings and stockings are near each other, so that something may be somebody's. */
        String textOfLine() {
            int starches = 1 + chance.nextInt(chance.nextInt(3) == 0 ? 5 : 2);
            int knitters = 1 + chance.nextInt(chance.nextInt(3) == 0 ? 4 : 2);
            int low = chance.nextInt(8);
            int wide = 1 + chance.nextInt(10 - low);
            StringBuilder text = new StringBuilder();
            int kings = 2 + chance.nextInt(3);
            for (int k = 0; k < kings; k++) {
                text.append(k == 0 ? "" : ",").append("klybr".charAt(chance.nextInt(5)));
                text.append(low + chance.nextInt(wide)).append(chance.nextInt(starches)).append(chance.nextInt(knitters));
            }
            int stockings = 2 + chance.nextInt(5);
            for (int s = 0; s < stockings; s++) {
                text.append(s == 0 ? ";" : ",").append(low + chance.nextInt(wide)).append(chance.nextInt(starches));
                text.append(chance.nextInt(knitters)).append(chance.nextInt(2));
            }
            return text.toString();
        }

        String spoilt(String text) {
            StringBuilder out = new StringBuilder(text);
            String signs = ",;0123456789klybrx ~K";
            switch (chance.nextInt(4)) {
                case 0: out.setLength(chance.nextInt(text.length())); break;
                case 1: out.append(signs.charAt(chance.nextInt(signs.length()))); break;
                case 2: out.deleteCharAt(chance.nextInt(text.length())); break;
                default: out.setCharAt(chance.nextInt(text.length()), signs.charAt(chance.nextInt(signs.length())));
            }
            return out.toString();
        }

        /** A number mostly from low up to high, at times just beyond, seldom far off. */
        int about(int low, int high) {
            int die = chance.nextInt(60);
            if (die == 0) {
                return low - 1;
            }
            if (die == 1) {
                return high + 1;
            }
            if (die == 2) {
                return chance.nextBoolean() ? Integer.MAX_VALUE : Integer.MIN_VALUE;
            }
            return low + chance.nextInt(high - low + 1);
        }

        int king() {
            return about(0, Math.max(model.kings.size() - 1, 0));
        }

        int sock() {
            return about(0, Math.max(model.socks.size() - 1, 0));
        }

        void anyCall() {
            if (chance.nextInt(3) == 0) {
                change();
            } else {
                ask();
            }
        }

        void change() {
            switch (chance.nextInt(20)) {
                case 0: case 1: due("wash()", line.wash(), model.wash()); break;
                case 2: case 3: case 4: { int s = sock(), x = about(0, 4); due("starch(" + s + ", " + x + ")", line.starch(s, x), model.starch(s, x)); break; }
                case 5: { int s = sock(); due("darn(" + s + ")", line.darn(s), model.darn(s)); break; }
                case 6: { int b = chance.nextInt(3) == 0 ? about(-9, 9) : about(-2, 2); due("wind(" + b + ")", line.wind(b), model.wind(b)); break; }
                case 7: case 8: case 9: case 10: { int s = sock(), p = about(0, 9); due("pin(" + s + ", " + p + ")", line.pin(s, p), model.pin(s, p)); break; }
                case 11: { int s = sock(); due("drop(" + s + ")", line.drop(s), model.drop(s)); break; }
                case 12: case 13: lie(); break;
                case 14: due("sweep()", line.sweep(), model.sweep()); break;
                case 15: case 16: fit(); break;
                case 17: if (chance.nextInt(3) == 0) { due("forget()", line.forget(), model.forget()); } break;
                case 18: due("image()", line.image(), model.image()); break;
                default: if (chance.nextInt(3) == 0) { due("restore()", line.restore(), model.restore()); }
            }
        }

        void lie() {
            int s = sock();
            int p = chance.nextInt(3) == 0 ? -1 : about(-1, 9);
            due("lies(" + s + ", " + p + ")", line.lies(s, p), model.lies(s, p));
        }

        void fit() {
            int k = king();
            int s = sock();
            boolean may = chance.nextBoolean();
            due("tryOn(" + k + ", " + s + ", " + may + ")", line.tryOn(k, s, may), model.tryOn(k, s, may));
        }

        void ask() {
            switch (chance.nextInt(20)) {
                case 0: case 1: case 2: { int k = king(), w = about(0, 9); due("king(" + k + ", " + w + ")", line.king(k, w), model.king(k, w)); break; }
                case 3: { int k = king(), w = about(0, 4); due("as(" + k + ", " + w + ")", line.as(k, w), model.as(k, w)); break; }
                case 4: case 5: { int s = sock(), w = about(0, 7); due("stocking(" + s + ", " + w + ")", line.stocking(s, w), model.stocking(s, w)); break; }
                case 6: { int k = king(), s = sock(); due("wrong(" + k + ", " + s + ")", line.wrong(k, s), model.wrong(k, s)); break; }
                case 7: { int p = about(0, 9); due("peg(" + p + ")", line.peg(p), model.peg(p)); break; }
                case 8: { int w = about(0, 2); due("throne(" + w + ")", line.throne(w), model.throne(w)); break; }
                case 9: { int w = chance.nextInt(3) == 0 ? about(0, 1) : about(10, 13); due("match(" + w + ")", line.match(w), model.match(w)); break; }
                case 10: { int k = king(), w = about(0, 1); due("chance(" + k + ", " + w + ")", line.chance(k, w), model.chance(k, w)); break; }
                case 11: { int w = about(0, 1); due("dog(" + w + ")", line.dog(w), model.dog(w)); break; }
                case 12: { int k = king(); due("coup(" + k + ")", line.coup(k), model.coup(k)); break; }
                case 13: due("fold()", line.fold(), model.fold()); break;
                case 14: case 15: { int w = about(0, 3); due("winds(" + w + ")", line.winds(w), model.winds(w)); break; }
                case 16: { int y = about(1, 60), s = about(0, 2147483646), w = about(0, 2); due("years(" + y + ", " + s + ", " + w + ")", line.years(y, s, w), model.years(y, s, w)); break; }
                case 17: { int w = about(0, 12); due("count(" + w + ")", line.count(w), model.count(w)); break; }
                case 18: if (chance.nextInt(4) == 0) { due("digest()", line.digest(), model.digest()); } break;
                default: due("fault()", line.fault(), model.fault());
            }
        }
    }

    private static final class King {
        char kind;
        int calf, starch, knitter;

        King withCalf(int other) {
            King k = new King();
            k.kind = kind;
            k.calf = other;
            k.starch = starch;
            k.knitter = knitter;
            return k;
        }
    }

    private static final class Sock {
        int size, starch, knitter, heel, peg;

        Sock copy() {
            Sock s = new Sock();
            s.size = size;
            s.starch = starch;
            s.knitter = knitter;
            s.heel = heel;
            s.peg = peg;
            return s;
        }
    }

    /** The document again, as slow and plain as can be. */
    private static final class Model {
        static final int NONE = -1, UNKNOWN = -101, OUTSIDE = -102, STATE = -103, FULL = -104;
        static final String KING = "[klybr][0-9][0-4][0-3]";
        static final String SOCK = "[0-9][0-4][0-3][01]";
        static final Pattern LINE = Pattern.compile(KING + "(," + KING + "){1,3};" + SOCK + "(," + SOCK + "){1,5}");

        String page = "";
        List<King> kings = new ArrayList<>();
        List<Sock> socks = new ArrayList<>();
        List<int[]> lies = new ArrayList<>();
        List<int[]> tried = new ArrayList<>();
        int changes, washes, lines, matches;
        Model image;

        static int kindNumber(char c) {
            switch (c) {
                case 'k': return 0;
                case 'l': return 1;
                case 'y': return 2;
                case 'b': return 3;
                default: return 4;
            }
        }

        Model copy() {
            Model m = new Model();
            m.kings = kings;
            for (Sock s : socks) {
                m.socks.add(s.copy());
            }
            m.lies = new ArrayList<>(lies);
            m.tried = new ArrayList<>(tried);
            m.changes = changes;
            m.washes = washes;
            return m;
        }

        int letter(int code) {
            if (code < 32 || code > 126) return OUTSIDE;
            if (page.length() == 52) return FULL;
            page += (char) code;
            return page.length();
        }

        int blank() {
            int n = page.length();
            page = "";
            return n;
        }

        int fault() {
            for (int n = 1; n <= page.length(); n++) {
                Matcher m = LINE.matcher(page.substring(0, n));
                if (!m.matches() && !m.hitEnd()) return n - 1;
            }
            return page.length();
        }

        int line() {
            if (!LINE.matcher(page).matches()) return STATE;
            String[] parts = page.split(";");
            kings = new ArrayList<>();
            socks = new ArrayList<>();
            for (String t : parts[0].split(",")) {
                King k = new King();
                k.kind = t.charAt(0);
                k.calf = t.charAt(1) - '0';
                k.starch = t.charAt(2) - '0';
                k.knitter = t.charAt(3) - '0';
                kings.add(k);
            }
            for (String t : parts[1].split(",")) {
                Sock s = new Sock();
                s.size = t.charAt(0) - '0';
                s.starch = t.charAt(1) - '0';
                s.knitter = t.charAt(2) - '0';
                s.heel = t.charAt(3) - '0';
                s.peg = socks.size();
                socks.add(s);
            }
            lies.clear();
            tried.clear();
            changes = 0;
            washes = 0;
            image = null;
            lines++;
            page = "";
            return socks.size();
        }

        static int howWrong(King k, Sock s) {
            int calf = k.calf;
            if (k.kind == 'y' || k.kind == 'r') {
                calf = calf < 2 ? 0 : calf - 2;
            }
            int w = calf > s.size ? calf - s.size : s.size - calf;
            if (k.kind != 'b' && k.starch != s.starch) w += 2;
            if (k.kind != 'r' && k.knitter != s.knitter) w += 3;
            if (k.kind == 'l') {
                if (s.heel == 0) w += 2;
            } else if (s.heel == 1) {
                w += 1;
            }
            return w;
        }

        static boolean may(King k, Sock s) {
            return howWrong(k, s) < 4;
        }

        boolean noKing(int k) {
            return k < 0 || k >= kings.size();
        }

        boolean noSock(int s) {
            return s < 0 || s >= socks.size();
        }

        static boolean match(Sock a, Sock b) {
            return a.peg >= 0 && b.peg >= 0 && a.starch == b.starch && a.knitter == b.knitter && Math.abs(a.size - b.size) < 2;
        }

        List<Integer> pairs(int king) {
            List<Integer> out = new ArrayList<>();
            King k = kings.get(king);
            for (int a = 0; a < socks.size(); a++) {
                for (int b = a + 1; b < socks.size(); b++) {
                    if (match(socks.get(a), socks.get(b)) && may(k, socks.get(a)) && may(k, socks.get(b))) {
                        out.add(10 * a + b);
                    }
                }
            }
            return out;
        }

        int pairWrong(int king, int pair) {
            return howWrong(kings.get(king), socks.get(pair / 10)) + howWrong(kings.get(king), socks.get(pair % 10));
        }

        List<Integer> heirs() {
            List<Integer> out = new ArrayList<>();
            for (int k = 0; k < kings.size(); k++) {
                if (!pairs(k).isEmpty()) out.add(k);
            }
            return out;
        }

        int hang() {
            int n = 0;
            for (Sock s : socks) {
                if (s.peg >= 0) n++;
            }
            return n;
        }

        List<Integer> calves(int king) {
            List<Integer> out = new ArrayList<>();
            for (int c = 0; c < 10; c++) {
                boolean fits = true;
                for (int[] t : tried) {
                    if (t[0] == king && may(kings.get(king).withCalf(c), socks.get(t[1])) != (t[2] == 1)) fits = false;
                }
                if (fits) out.add(c);
            }
            return out;
        }

        int king(int king, int what) {
            if (noKing(king)) return UNKNOWN;
            if (what < 0 || what > 9) return OUTSIDE;
            King k = kings.get(king);
            if (what == 0) return kindNumber(k.kind);
            if (what == 1) return k.calf;
            if (what == 2) return k.starch;
            if (what == 3) return k.knitter;
            if (what == 4) {
                int bits = 0;
                for (int s = 0; s < socks.size(); s++) {
                    if (may(k, socks.get(s))) bits += 1 << s;
                }
                return bits;
            }
            List<Integer> his = pairs(king);
            if (what == 5) return his.size();
            if (what == 6 || what == 7) {
                int best = NONE;
                int least = 1000;
                for (int p : his) {
                    if (pairWrong(king, p) < least) {
                        least = pairWrong(king, p);
                        best = p;
                    }
                }
                return what == 6 ? best : best == NONE ? NONE : least;
            }
            List<Integer> calves = calves(king);
            if (what == 8) {
                int bits = 0;
                for (int c : calves) bits += 1 << c;
                return bits;
            }
            if (calves.isEmpty()) return NONE;
            int best = NONE;
            int least = 1000;
            for (int s = 0; s < socks.size(); s++) {
                int yes = 0;
                for (int c : calves) {
                    if (may(k.withCalf(c), socks.get(s))) yes++;
                }
                int worst = Math.max(yes, calves.size() - yes);
                if (worst < least) {
                    least = worst;
                    best = s;
                }
            }
            return best;
        }

        int as(int king, int kind) {
            if (noKing(king)) return UNKNOWN;
            if (kind < 0 || kind > 4) return OUTSIDE;
            String suits = new String[] {"klybr", "l", "yr", "b", "r"}[kind];
            return suits.indexOf(kings.get(king).kind) >= 0 ? king : NONE;
        }

        int stocking(int stocking, int what) {
            if (noSock(stocking)) return UNKNOWN;
            if (what < 0 || what > 7) return OUTSIDE;
            Sock s = socks.get(stocking);
            if (what == 0) return s.size;
            if (what == 1) return s.starch;
            if (what == 2) return s.knitter;
            if (what == 3) return s.heel;
            if (what == 4) return s.peg;
            int bits = 0;
            int best = NONE;
            for (int k = 0; k < kings.size(); k++) {
                if (may(kings.get(k), s)) bits += 1 << k;
                if (best == NONE || wrong(k, stocking) < wrong(best, stocking)) best = k;
            }
            if (what == 5) return bits;
            if (what == 6) return best;
            int mates = 0;
            for (int o = 0; o < socks.size(); o++) {
                if (o != stocking && match(s, socks.get(o))) mates += 1 << o;
            }
            return mates;
        }

        int wrong(int king, int stocking) {
            if (noKing(king) || noSock(stocking)) return UNKNOWN;
            return howWrong(kings.get(king), socks.get(stocking));
        }

        int peg(int peg) {
            if (kings.isEmpty() || peg < 0 || peg > 9) return UNKNOWN;
            for (int s = 0; s < socks.size(); s++) {
                if (socks.get(s).peg == peg) return s;
            }
            return NONE;
        }

        void washed() {
            for (Sock s : socks) {
                if (s.peg >= 0 && s.knitter > 0 && s.size > 0) s.size--;
            }
        }

        void blown(int by) {
            for (Sock s : socks) {
                if (s.peg >= 0) {
                    s.peg += by;
                    if (s.peg < 0 || s.peg > 9) s.peg = NONE;
                }
            }
        }

        int wash() {
            if (kings.isEmpty()) return STATE;
            if (washes + 1 == 100) return FULL;
            washed();
            washes++;
            changes++;
            return hang();
        }

        int starch(int stocking, int starch) {
            if (noSock(stocking)) return UNKNOWN;
            if (starch < 0 || starch > 4) return OUTSIDE;
            int was = socks.get(stocking).starch;
            socks.get(stocking).starch = starch;
            changes++;
            return was;
        }

        int darn(int stocking) {
            if (noSock(stocking)) return UNKNOWN;
            int was = socks.get(stocking).heel;
            socks.get(stocking).heel = 0;
            changes++;
            return was;
        }

        int wind(int by) {
            if (by < -9 || by > 9) return OUTSIDE;
            if (kings.isEmpty()) return STATE;
            int before = hang();
            blown(by);
            changes++;
            return before - hang();
        }

        int pin(int stocking, int peg) {
            if (noSock(stocking)) return UNKNOWN;
            if (peg < 0 || peg > 9) return UNKNOWN;
            if (peg(peg) != NONE) return STATE;
            int was = socks.get(stocking).peg;
            socks.get(stocking).peg = peg;
            changes++;
            return was;
        }

        int drop(int stocking) {
            if (noSock(stocking)) return UNKNOWN;
            int was = socks.get(stocking).peg;
            if (was < 0) return STATE;
            socks.get(stocking).peg = NONE;
            changes++;
            return was;
        }

        int throne(int what) {
            if (what < 0 || what > 2) return OUTSIDE;
            if (kings.isEmpty()) return STATE;
            List<Integer> heirs = heirs();
            if (what == 0) return heirs.isEmpty() ? 0 : heirs.size() == 1 ? 1 : 2;
            if (what == 1) return heirs.size() == 1 ? heirs.get(0) : NONE;
            int bits = 0;
            for (int k : heirs) bits += 1 << k;
            return bits;
        }

        int match(int what) {
            if (what != 0 && what != 1 && (what < 10 || what > 13)) return OUTSIDE;
            if (kings.isEmpty() || matches == 20) return STATE;
            matches++;
            List<List<Integer>> ways = new ArrayList<>();
            ways.add(new ArrayList<>());
            for (int k = 0; k < kings.size(); k++) {
                List<Integer> may = new ArrayList<>(List.of(NONE));
                may.addAll(pairs(k));
                List<List<Integer>> longer = new ArrayList<>();
                for (List<Integer> way : ways) {
                    for (int p : may) {
                        if (p != NONE && clashes(way, p)) continue;
                        List<Integer> next = new ArrayList<>(way);
                        next.add(p);
                        longer.add(next);
                    }
                }
                ways = longer;
            }
            ways.sort((x, y) -> {
                int byMany = Integer.compare(many(y), many(x));
                if (byMany != 0) return byMany;
                int byWrong = Integer.compare(allWrong(x), allWrong(y));
                if (byWrong != 0) return byWrong;
                for (int k = 0; k < x.size(); k++) {
                    if (!x.get(k).equals(y.get(k))) return Integer.compare(x.get(k), y.get(k));
                }
                return 0;
            });
            List<Integer> best = ways.get(0);
            if (what == 0) return many(best);
            if (what == 1) return allWrong(best);
            return what - 10 < best.size() ? best.get(what - 10) : NONE;
        }

        static boolean clashes(List<Integer> way, int p) {
            for (int q : way) {
                if (q == NONE) continue;
                if (q / 10 == p / 10 || q / 10 == p % 10 || q % 10 == p / 10 || q % 10 == p % 10) return true;
            }
            return false;
        }

        static int many(List<Integer> way) {
            int n = 0;
            for (int p : way) {
                if (p != NONE) n++;
            }
            return n;
        }

        int allWrong(List<Integer> way) {
            int w = 0;
            for (int k = 0; k < way.size(); k++) {
                if (way.get(k) != NONE) w += pairWrong(k, way.get(k));
            }
            return w;
        }

        int chance(int king, int what) {
            if (noKing(king)) return UNKNOWN;
            if (what != 0 && what != 1) return OUTSIDE;
            int above = 0;
            int below = 0;
            for (int a = 0; a < socks.size(); a++) {
                for (int b = 0; b < socks.size(); b++) {
                    if (a == b || socks.get(a).peg < 0 || socks.get(b).peg < 0) continue;
                    below++;
                    if (pairs(king).contains(10 * Math.min(a, b) + Math.max(a, b))) above++;
                }
            }
            if (below == 0) return what;
            int x = above;
            int y = below;
            while (y != 0) {
                int r = x % y;
                x = y;
                y = r;
            }
            return what == 0 ? above / x : below / x;
        }

        int fewest(List<Integer> left, int depth) {
            if (left.size() == 1) return 0;
            if (left.isEmpty() || depth > 4) return 1000;
            int best = 1000;
            for (int k = 0; k < kings.size(); k++) {
                best = Math.min(best, over(left, k, depth));
            }
            return best;
        }

        int over(List<Integer> left, int k, int depth) {
            List<Integer> yes = new ArrayList<>();
            List<Integer> no = new ArrayList<>();
            for (int s : left) {
                (may(kings.get(k), socks.get(s)) ? yes : no).add(s);
            }
            if (yes.isEmpty() || no.isEmpty()) return 1000;
            return 1 + Math.max(fewest(yes, depth + 1), fewest(no, depth + 1));
        }

        int dog(int what) {
            if (what != 0 && what != 1) return OUTSIDE;
            if (kings.isEmpty()) return STATE;
            List<Integer> left = new ArrayList<>();
            for (int s = 0; s < socks.size(); s++) {
                if (socks.get(s).peg >= 0) left.add(s);
            }
            int few = fewest(left, 0);
            if (few >= 1000) return NONE;
            if (what == 0) return few;
            for (int k = 0; few > 0 && k < kings.size(); k++) {
                if (over(left, k, 0) == few) return k;
            }
            return NONE;
        }

        boolean his(int king) {
            return heirs().equals(List.of(king));
        }

        int coup(int king) {
            if (noKing(king)) return UNKNOWN;
            if (his(king)) return 100;
            for (int act = 0; act < 60; act++) {
                int s = act / 10;
                if (s >= socks.size() || socks.get(s).peg < 0 || (act % 10 > 4 && act % 10 < 9)) continue;
                Model m = copy();
                if (act % 10 == 9) m.darn(s); else m.starch(s, act % 10);
                if (m.his(king)) return act;
            }
            return NONE;
        }

        int fold() {
            if (kings.isEmpty()) return STATE;
            for (int few = 0; few <= 6; few++) {
                for (int bits = 0; bits < 64; bits++) {
                    if (Integer.bitCount(bits) != few) continue;
                    Model m = copy();
                    boolean all = true;
                    for (int s = 0; s < 6; s++) {
                        if ((bits >> s & 1) == 1 && m.drop(s) < 0) all = false;
                    }
                    if (all && m.heirs().isEmpty()) return bits;
                }
            }
            throw new IllegalStateException("with all OFF nobody has a PAIR");
        }

        int lies(int stocking, int peg) {
            if (noSock(stocking)) return UNKNOWN;
            if (peg < -1 || peg > 9) return OUTSIDE;
            if (lies.size() == 6) return FULL;
            lies.add(new int[] {stocking, peg});
            return lies.size();
        }

        int sweep() {
            int n = lies.size();
            lies.clear();
            return n;
        }

        int winds(int what) {
            if (what < 0 || what > 3) return OUTSIDE;
            if (kings.isEmpty()) return STATE;
            Map<Integer, Model> then = new HashMap<>();
            List<Integer> can = new ArrayList<>();
            for (int by = -9; by <= 9; by++) {
                Model m = copy();
                m.blown(by);
                boolean so = true;
                for (int[] l : lies) {
                    if (m.socks.get(l[0]).peg != l[1]) so = false;
                }
                if (so) {
                    can.add(by);
                    then.put(by, m);
                }
            }
            if (what == 0) return can.size();
            if (what == 3) return ask(can, then);
            if (can.isEmpty()) return 0;
            return what == 1 ? can.get(0) : can.get(can.size() - 1);
        }

        int ask(List<Integer> can, Map<Integer, Model> then) {
            int best = NONE;
            int least = 1000;
            for (int s = 0; s < socks.size() && !can.isEmpty(); s++) {
                Map<Integer, Integer> places = new HashMap<>();
                for (int by : can) {
                    places.merge(then.get(by).socks.get(s).peg, 1, Integer::sum);
                }
                int worst = 0;
                for (int n : places.values()) worst = Math.max(worst, n);
                if (worst < least) {
                    least = worst;
                    best = s;
                }
            }
            return best;
        }

        int tryOn(int king, int stocking, boolean may) {
            if (noKing(king) || noSock(stocking)) return UNKNOWN;
            if (tried.size() == 8) return FULL;
            tried.add(new int[] {king, stocking, may ? 1 : 0});
            return tried.size();
        }

        int forget() {
            int n = tried.size();
            tried.clear();
            return n;
        }

        int years(int years, int seed, int what) {
            if (years < 1 || years > 60 || seed < 0 || what < 0 || what > 2) return OUTSIDE;
            if (kings.isEmpty()) return STATE;
            Model m = copy();
            java.math.BigInteger x = java.math.BigInteger.valueOf(seed);
            int settled = 0;
            for (int y = 0; y < years; y++) {
                x = x.multiply(java.math.BigInteger.valueOf(1103515245)).add(java.math.BigInteger.valueOf(12345))
                    .mod(java.math.BigInteger.TWO.pow(31));
                m.blown(x.intValue() / 65536 % 5 - 2);
                m.washed();
                if (m.heirs().size() == 1) settled++;
            }
            return what == 0 ? settled : what == 1 ? m.hang() : x.intValue();
        }

        int image() {
            if (kings.isEmpty()) return STATE;
            image = copy();
            return changes;
        }

        int restore() {
            if (image == null) return STATE;
            Model m = image.copy();
            socks = m.socks;
            lies = m.lies;
            tried = m.tried;
            changes = m.changes;
            washes = m.washes;
            return changes;
        }

        int count(int what) {
            switch (what) {
                case 0: return kings.size();
                case 1: return socks.size();
                case 2: return hang();
                case 3: return socks.stream().mapToInt(s -> s.size).sum();
                case 4: {
                    int twos = 0;
                    for (int s = 0; s < socks.size(); s++) twos += Integer.bitCount(stocking(s, 7));
                    return twos / 2;
                }
                case 5: return heirs().size();
                case 6: return changes;
                case 7: return washes;
                case 8: return lies.size();
                case 9: return tried.size();
                case 10: return page.length();
                case 11: return lines;
                case 12: return matches;
                default: return OUTSIDE;
            }
        }

        long digest() {
            List<Long> all = new ArrayList<>();
            for (int k = 0; k < kings.size(); k++) {
                for (int w = 0; w <= 9; w++) all.add((long) king(k, w));
                all.add((long) chance(k, 0));
                all.add((long) chance(k, 1));
                all.add((long) coup(k));
            }
            for (int s = 0; s < socks.size(); s++) {
                for (int w = 0; w <= 7; w++) all.add((long) stocking(s, w));
                for (int k = 0; k < kings.size(); k++) all.add((long) wrong(k, s));
            }
            if (!kings.isEmpty()) {
                for (int w = 0; w <= 2; w++) all.add((long) throne(w));
                for (int w = 0; w <= 1; w++) all.add((long) dog(w));
                all.add((long) fold());
                for (int w = 0; w <= 3; w++) all.add((long) winds(w));
            }
            for (char c : page.toCharArray()) all.add((long) c);
            for (int w = 0; w <= 12; w++) all.add((long) count(w));
            long h = 1097;
            for (long x : all) h = 31 * h + x;
            return h;
        }
    }
}
