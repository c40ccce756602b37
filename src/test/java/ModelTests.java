import java.util.ArrayList;
import java.util.Arrays;
import java.util.List;

/**
 * Long runs of calls, drawn by a fixed seed, against a second program that does what the document says
 * in the slowest and plainest way: all orders one by one, TEXTS by cutting them, VOICES by Java's own super.
 * Arguments: how many runs, and the first seed.
 */
public final class ModelTests {
    private static final int LOW = -1000000000;
    private static final int BEYOND = LOW - 1;
    private static final int NONE = LOW - 2;
    private static final int STATE = LOW - 3;
    private static final int FULL = LOW - 4;
    private static final int KIND = LOW - 5;
    /** What an object answers behind its 512th call is free; a step makes several, when it feeds a text. */
    private static final int CALLS = 512;
    private static final int MOST_CALLS_A_STEP = 60;

    public static void main(String[] args) {
        int runs = args.length > 0 ? Integer.parseInt(args[0]) : 150;
        long first = args.length > 1 ? Long.parseLong(args[1]) : 1;
        int failed = 0;
        for (int i = 0; i < runs; i++) {
            if (!new Run(first + i).isAsDue()) {
                failed++;
            }
        }
        System.out.println((runs - failed) + " passed, " + failed + " failed");
        if (failed != 0) {
            System.exit(1);
        }
    }

    /** One object, its model, and the calls drawn for both. */
    private static final class Run {
        private final PlayedBack x = new PlayedBack();
        private final Model model = new Model();
        private final List<String> calls = new ArrayList<>();
        private final long seed;
        private final boolean quiet;
        private long state;

        Run(long seed) {
            this.seed = seed;
            state = seed * 0x9E3779B97F4A7C15L + 77;
            quiet = draw(4) != 0;
        }

        private int draw(int n) {
            state = state * 6364136223846793005L + 1442695040888963407L;
            return (int) Math.floorMod(state >>> 33, (long) n);
        }

        private int from(int low, int high) {
            return low + draw(high - low + 1);
        }

        /** Mostly within; now and then the numbers beside, or far ones. */
        private int near(int low, int high) {
            int odd = draw(quiet ? 60 : 14);
            if (odd == 0) {
                return draw(2) == 0 ? low - 1 : high + 1;
            }
            if (odd == 1) {
                int[] far = {Integer.MIN_VALUE, Integer.MAX_VALUE, -1, 100, 1 << 16, -12345, 7};
                return far[draw(far.length)];
            }
            return from(low, Math.max(low, high));
        }

        private int number() {
            int[] some = {0, 1, 5, -1, 255, 256, 65537, Integer.MAX_VALUE, Integer.MIN_VALUE, BEYOND, 12345};
            return draw(3) == 0 ? some[draw(some.length)] : from(-300, 300);
        }

        private int sceneNumber() {
            return near(0, Math.max(0, model.scenes.size() - 1));
        }

        private int placeNumber() {
            return near(0, Math.max(0, model.scenes.size() - 1));
        }

        boolean isAsDue() {
            for (int i = 0; calls.size() <= CALLS - MOST_CALLS_A_STEP; i++) {
                long[] both = i < 12 && draw(2) == 0 ? openOne() : one();
                if (both[0] != both[1]) {
                    System.out.println("seed " + seed + ", step " + i + ": " + calls.get(calls.size() - 1)
                            + " answered " + both[0] + ", due is " + both[1]);
                    return false;
                }
            }
            return true;
        }

        private void note(String call, long... values) {
            StringBuilder s = new StringBuilder(call);
            for (long v : values) {
                s.append(' ').append(v);
            }
            calls.add(s.toString());
        }

        private long[] pair(long got, long want) {
            return new long[] {got, model.counted((int) want, want)};
        }

        private long[] free(long got, long want) {
            return new long[] {got, want};
        }

        private long[] openOne() {
            int km = near(0, 69);
            int causes = near(0, (1 << model.scenes.size()) - 1);
            if (draw(3) == 0) {
                causes = 0;
            }
            int takes = near(1, 30);
            int cast = near(0, 63);
            note("scene", km, causes, takes, cast);
            return pair(x.scene(km, causes, takes, cast), model.scene(km, causes, takes, cast));
        }

        private String drawnText() {
            StringBuilder s = new StringBuilder();
            String alphabet = draw(2) == 0 ? "clm" : "ghr";
            writeText(s, alphabet, 0, 0);
            String text = s.length() > 50 ? s.substring(0, 50) : s.toString();
            int spoil = draw(4);
            if (spoil == 0 && text.length() > 0) {
                int at = draw(text.length());
                String signs = "clmghr0123456789|&<=>+-*/%!() ?A\u00ff\u0000";
                text = text.substring(0, at) + signs.charAt(draw(signs.length())) + text.substring(at + draw(2));
            }
            if (spoil == 1 && draw(2) == 0) {
                text = text.substring(0, draw(text.length() + 1));
            }
            return text.length() > 50 ? text.substring(0, 50) : text;
        }

        private void writeText(StringBuilder s, String names, int level, int depth) {
            if (level == 5) {
                int which = draw(10);
                if (which < 3) {
                    s.append(from(0, draw(6) == 0 ? 12000 : 30));
                } else if (which < 7 || depth > 6) {
                    s.append(names.charAt(draw(3)));
                } else if (which == 7) {
                    s.append('!');
                    writeText(s, names, 5, depth + 1);
                } else {
                    s.append('(');
                    writeText(s, names, 0, depth + 1);
                    s.append(')');
                }
                return;
            }
            String[] signs = {"|", "&", "<=>", "+-", "*/%"};
            writeText(s, names, level + 1, depth);
            int more = draw(5) == 0 ? 1 + draw(2) : 0;
            if (level >= 3 && draw(4) == 0) {
                more++;
            }
            for (int i = 0; i < more && s.length() < 45; i++) {
                s.append(signs[level].charAt(draw(signs[level].length())));
                writeText(s, names, level + 1, depth);
            }
        }

        /** A whole text in pieces; the last piece's answers. */
        private long[] feedText() {
            String text = drawnText();
            long[] both = free(0, 0);
            int at = 0;
            while (at < text.length() && both[0] == both[1]) {
                int n = Math.min(text.length() - at, 1 + draw(8));
                long word = 0;
                for (int k = 7; k >= 0; k--) {
                    word = word << 8 | (k < n ? text.charAt(at + k) & 255 : draw(256));
                }
                note("feed", word, n);
                both = pair(x.feed(word, n), model.feed(word, n));
                at += n;
            }
            if (both[0] == both[1] && draw(8) != 0) {
                int use = near(0, 1);
                note("text " + text, use);
                both = pair(x.text(use), model.text(use));
            }
            return both;
        }

        private long[] one() {
            int which = draw(100);
            int s = sceneNumber();
            int n = model.scenes.size();
            if (which < 2) {
                return openOne();
            }
            if (which < 6) {
                int prop = near(0, draw(2) == 0 ? 4 : 1);
                int from = near(0, 5);
                int to = near(0, draw(2) == 0 ? 2 : 5);
                note("prop", s, prop, from, to);
                return pair(x.prop(s, prop, from, to), model.prop(s, prop, from, to));
            }
            if (which < 11) {
                int what = near(0, 10);
                note("ofScene", s, what);
                return pair(x.ofScene(s, what), model.ofScene(s, what));
            }
            if (which < 15) {
                int km = near(0, 69);
                note("become", s, km);
                return pair(x.become(s, km), model.become(s, km));
            }
            if (which < 17) {
                int kind = near(0, 6);
                note("as", s, kind);
                return pair(x.as(s, kind), model.as(s, kind));
            }
            if (which < 23) {
                int[] whats = {3, 4, 6};
                int what = draw(10) == 0 ? near(0, 10) : whats[draw(3)];
                int v = what == 3 ? near(1, 30) : what == 4 ? near(0, 63) : near(0, 1);
                note("set", s, what, v);
                return pair(x.set(s, what, v), model.set(s, what, v));
            }
            if (which < 26) {
                note("comes");
                return pair(x.comes(), model.happening());
            }
            if (which < 28) {
                int place = placeNumber();
                note("given", place);
                return pair(x.given(place), model.given(place));
            }
            if (which < 32) {
                int place = placeNumber();
                note("place", s, place);
                return pair(x.place(s, place), model.place(s, place));
            }
            if (which < 34) {
                int v = near(0, 1);
                note("back", v);
                return pair(x.back(v), model.back(v));
            }
            if (which < 37) {
                int place = placeNumber();
                note("guess", place);
                return pair(x.guess(place), model.guess(place));
            }
            if (which < 40) {
                note("understood", s);
                return pair(x.understood(s), model.understood(s));
            }
            if (which < 42) {
                note("flaw");
                return pair(x.flaw(), model.flaw());
            }
            if (which < 43) {
                note("turn");
                return pair(x.turn(), model.turn());
            }
            return second(which, s, n);
        }

        private long[] second(int which, int s, int n) {
            if (which < 44) {
                int bytes = near(1, 8);
                long word = (long) number() << 32 | number() & 0xffffffffL;
                note("feed", word, bytes);
                return pair(x.feed(word, bytes), model.feed(word, bytes));
            }
            if (which < 45) {
                int use = near(0, 1);
                note("text", use);
                return pair(x.text(use), model.text(use));
            }
            if (which < 49) {
                return feedText();
            }
            if (which < 52) {
                int use = near(0, 1);
                int a = number();
                int b = number();
                int c = number();
                note("law", use, a, b, c);
                return pair(x.law(use, a, b, c), model.law(use, a, b, c));
            }
            if (which < 54) {
                int what = near(-1, draw(2) == 0 ? 6 : n - 1);
                note("least", what);
                return pair(x.least(what), model.least(what));
            }
            if (which < 56) {
                int what = near(-1, draw(2) == 0 ? 6 : n - 1);
                note("fewest", what);
                return pair(x.fewest(what), model.fewest(what));
            }
            if (which < 58) {
                int g = draw(3) == 0 ? near(0, 9999) : near(0, 60 * n);
                note("orders", g);
                return pair(x.orders(g), model.orders(g));
            }
            if (which < 61) {
                int v = near(0, 1);
                int what = near(0, 1);
                note("mended", s, v, what);
                return pair(x.mended(s, v, what), model.mended(s, v, what));
            }
            if (which < 63) {
                int place = near(0, n);
                note("thought", place);
                return pair(x.thought(place), model.thought(place));
            }
            if (which < 64) {
                note("sure");
                return pair(x.sure(), model.sure());
            }
            if (which < 67) {
                int set = draw(2) == 0 ? near(0, (1 << n) - 1) : model.happening() ^ (n == 0 ? 0 : 1 << draw(n) & -draw(2));
                note("explained", s, set);
                return pair(x.explained(s, set), model.explained(s, set));
            }
            if (which < 70) {
                int times = draw(3) == 0 ? near(1, 200) : near(1, 9);
                note("evenings", times);
                return pair(x.evenings(times), model.evenings(times, false));
            }
            if (which < 73) {
                int times = draw(3) == 0 ? near(1, 200) : near(1, 9);
                note("loose", times);
                return pair(x.loose(times), model.evenings(times, true));
            }
            return third(which, s, n);
        }

        private long[] third(int which, int s, int n) {
            if (which < 74) {
                int v = number();
                note("seed", v);
                return free(x.seed(v), model.seed(v));
            }
            if (which < 77) {
                int act = near(0, 3);
                int v = number();
                note("voice", s, act, v);
                int got = x.voice(s, act, v);
                boolean wrong = s < 0 || s >= n || act < 0 || act > 3;
                return wrong ? pair(got, BEYOND) : free(got, model.voice(s, act, v));
            }
            if (which < 79) {
                int i = near(0, 9);
                note("trace", i);
                return pair(x.trace(i), model.trace(i));
            }
            if (which < 81) {
                int sheet = near(0, 3);
                int[] widths = {8, 8, 8, 16, 32, 0};
                int bits = draw(20) == 0 ? near(0, 32) : widths[draw(widths.length)];
                int size = draw(2) == 0 ? n : near(0, draw(2) == 0 ? 8 : 40);
                note("sheet", sheet, bits, size);
                return pair(x.sheet(sheet, bits, size), model.sheet(sheet, bits, size));
            }
            if (which < 84) {
                return orderBySheet();
            }
            if (which < 86) {
                int sheet = near(0, 3);
                int i = near(0, 7);
                int v = draw(2) == 0 ? from(0, 6) : number();
                note("put", sheet, i, v);
                return pair(x.put(sheet, i, v), model.put(sheet, i, v));
            }
            if (which < 88) {
                int sheet = near(0, 3);
                int other = near(0, 3);
                int i = near(0, 6);
                int j = near(0, 6);
                int times = near(0, 5);
                note("move", sheet, i, other, j, times);
                return pair(x.move(sheet, i, other, j, times), model.move(sheet, i, other, j, times));
            }
            if (which < 89) {
                int sheet = near(0, 3);
                note("judge", sheet);
                return pair(x.judge(sheet), model.judge(sheet));
            }
            if (which < 90) {
                note("image");
                return pair(x.image(), model.image());
            }
            if (which < 91) {
                note("restore");
                return pair(x.restore(), model.restore());
            }
            if (which < 94) {
                int v = draw(3) == 0 || n == 0 ? number() : model.guess(Math.min(n - 1, model.waiting.size()));
                note("tell", v);
                return pair(x.tell(v), model.tell(v));
            }
            if (which < 95) {
                note("check");
                return pair(x.check(), model.check());
            }
            if (which < 98) {
                int what = near(0, 11);
                note("count", what);
                return what == 11 ? free(x.count(what), model.z) : pair(x.count(what), model.count(what));
            }
            int k = near(1, 5);
            note("told", k);
            return pair(x.told(k), model.told(k));
        }

        /** A SHEET of all SCENES in some order, or of what COMES; at times with one number spoilt. */
        private long[] orderBySheet() {
            int n = model.scenes.size();
            int sheet = draw(4);
            int bits = 8 << draw(3);
            boolean judged = draw(2) == 0;
            note("sheet", sheet, bits, n);
            long[] both = pair(x.sheet(sheet, bits, n), model.sheet(sheet, bits, n));
            List<Integer> numbers = new ArrayList<>();
            for (int i = 0; i < n; i++) {
                if (judged) {
                    numbers.add(model.happening() >> i & 1);
                } else {
                    numbers.add(draw(numbers.size() + 1), i);
                }
            }
            if (n > 0 && draw(4) == 0) {
                numbers.set(draw(n), from(-1, 8));
            }
            for (int i = 0; i < n && both[0] == both[1]; i++) {
                note("put", sheet, i, numbers.get(i));
                both = pair(x.put(sheet, i, numbers.get(i)), model.put(sheet, i, numbers.get(i)));
            }
            if (both[0] == both[1]) {
                note(judged ? "judge" : "order", sheet);
                both = judged ? pair(x.judge(sheet), model.judge(sheet)) : pair(x.order(sheet), model.order(sheet));
            }
            return both;
        }
    }

    private static final class Given {
        int kind;
        int m;
        int causes;
        int minutes;
        int cast;
        int prop = 4;
        int from;
        int to;
        int will = 1;

        Given copy() {
            Given g = new Given();
            g.kind = kind;
            g.m = m;
            g.causes = causes;
            g.minutes = minutes;
            g.cast = cast;
            g.prop = prop;
            g.from = from;
            g.to = to;
            g.will = will;
            return g;
        }
    }

    private static final class Model {
        List<Given> scenes = new ArrayList<>();
        List<Integer> order = new ArrayList<>();
        List<Integer> waiting = new ArrayList<>();
        List<Integer> trace = new ArrayList<>();
        String tape = "";
        String[] texts = new String[2];
        int back = 1;
        int takings;
        int evenings;
        int z = 1;
        int[][] sheets = new int[4][];
        int[] widths = new int[4];
        Model image;
        int images;
        int[] told = new int[6];

        long counted(int error, long answer) {
            if (error < LOW && error >= LOW - 5) {
                told[LOW - error]++;
            }
            return answer;
        }

        private boolean is(int s) {
            return s >= 0 && s < scenes.size();
        }

        private static boolean in(int v, int a, int b) {
            return a <= v && v <= b;
        }

        int scene(int km, int causes, int minutes, int cast) {
            if (!in(km, 0, 69) || !in(causes, 0, (1 << scenes.size()) - 1) || !in(minutes, 1, 30) || !in(cast, 0, 63)) {
                return BEYOND;
            }
            if (scenes.size() == 7) {
                return FULL;
            }
            Given g = new Given();
            g.kind = km / 10;
            g.m = km % 10;
            g.causes = causes;
            g.minutes = minutes;
            g.cast = cast;
            scenes.add(g);
            order.add(0, scenes.size() - 1);
            return scenes.size() - 1;
        }

        int prop(int s, int prop, int from, int to) {
            if (!is(s) || !in(prop, 0, 4) || prop < 4 && (!in(from, 0, 5) || !in(to, 0, 5))) {
                return BEYOND;
            }
            scenes.get(s).prop = prop;
            scenes.get(s).from = from;
            scenes.get(s).to = to;
            return 1;
        }

        private boolean isA(int kind, int upper) {
            String[] lines = {"0", "10", "20", "30", "410", "520", "630"};
            return lines[kind].indexOf((char) ('0' + upper)) >= 0;
        }

        private int shock(Given g) {
            int shock = isA(g.kind, 2) ? g.m : isA(g.kind, 3) ? 5 : 0;
            return g.kind == 6 ? shock + g.m : shock;
        }

        private boolean[] outcome(int[] wills) {
            boolean[] comes = new boolean[scenes.size()];
            for (int i = 0; i < comes.length; i++) {
                Given g = scenes.get(i);
                int n = 0;
                int t = 0;
                for (int k = 0; k < i; k++) {
                    if ((g.causes >> k & 1) == 1) {
                        n++;
                        t += comes[k] ? 1 : 0;
                    }
                }
                boolean odd = t % 2 != 0;
                boolean[] by = {t == n, t > 0, odd, t != n, t > g.m % 3, g.m % 2 == 0 ? odd : !odd, g.m >= 5 || t != n};
                comes[i] = n == 0 ? wills[i] == 1 : by[g.kind];
            }
            return comes;
        }

        private int[] wills() {
            int[] wills = new int[scenes.size()];
            for (int i = 0; i < wills.length; i++) {
                wills[i] = scenes.get(i).will;
            }
            return wills;
        }

        private static int bits(boolean[] comes) {
            int bits = 0;
            for (int i = 0; i < comes.length; i++) {
                bits += comes[i] ? 1 << i : 0;
            }
            return bits;
        }

        int happening() {
            return bits(outcome(wills()));
        }

        private int victim(int s) {
            Given g = scenes.get(s);
            if (!isA(g.kind, 3) || (happening() >> s & 1) == 0) {
                return -1;
            }
            for (int actor = 0; actor < 6; actor++) {
                if ((g.cast >> actor & 1) == 1) {
                    return actor;
                }
            }
            return -1;
        }

        private boolean broken(int s) {
            for (int i = 0; i < s; i++) {
                int dead = victim(i);
                if (dead >= 0 && (scenes.get(s).cast >> dead & 1) == 1) {
                    return true;
                }
            }
            return false;
        }

        int ofScene(int s, int what) {
            if (!is(s) || !in(what, 0, 10)) {
                return BEYOND;
            }
            Given g = scenes.get(s);
            int[] all = {g.kind, g.m, g.causes, g.minutes, g.cast, g.prop, g.will, happening() >> s & 1, shock(g), victim(s), broken(s) ? 1 : 0};
            return all[what];
        }

        int become(int s, int km) {
            if (!is(s) || !in(km, 0, 69)) {
                return BEYOND;
            }
            int was = scenes.get(s).kind;
            scenes.get(s).kind = km / 10;
            scenes.get(s).m = km % 10;
            return was;
        }

        int as(int s, int kind) {
            if (!is(s) || !in(kind, 0, 6)) {
                return BEYOND;
            }
            return isA(scenes.get(s).kind, kind) ? scenes.get(s).m : KIND;
        }

        int set(int s, int what, int v) {
            if (!is(s)) {
                return BEYOND;
            }
            Given g = scenes.get(s);
            int was = BEYOND;
            if (what == 3 && in(v, 1, 30)) {
                was = g.minutes;
                g.minutes = v;
            }
            if (what == 4 && in(v, 0, 63)) {
                was = g.cast;
                g.cast = v;
            }
            if (what == 6 && in(v, 0, 1)) {
                was = g.will;
                g.will = v;
            }
            return was;
        }

        int given(int place) {
            return is(place) ? order.get(place) : BEYOND;
        }

        int place(int s, int place) {
            if (!is(s) || !is(place)) {
                return BEYOND;
            }
            int was = order.indexOf(s);
            order.remove((Integer) s);
            order.add(place, s);
            return was;
        }

        int back(int v) {
            if (!in(v, 0, 1)) {
                return BEYOND;
            }
            int was = back;
            back = v;
            return was;
        }

        private int guessIn(List<Integer> row, int place) {
            int s = row.get(place);
            Given g = scenes.get(s);
            int c = 0;
            for (int k = 0; k < 7; k++) {
                if ((g.causes >> k & 1) == 1 && row.indexOf(k) > place) {
                    c++;
                }
            }
            return law(0, c, g.minutes, g.m) + (c > 0 ? shock(g) : 0);
        }

        int guess(int place) {
            return is(place) ? guessIn(order, place) : BEYOND;
        }

        private int guessedIn(List<Integer> row) {
            int sum = 0;
            for (int i = 0; i < row.size(); i++) {
                sum += guessIn(row, i);
            }
            return sum;
        }

        int understood(int s) {
            if (!is(s)) {
                return BEYOND;
            }
            int place = order.indexOf(s);
            for (int k = 0; k < s; k++) {
                if ((scenes.get(s).causes >> k & 1) == 1) {
                    place = Math.max(place, understood(k));
                }
            }
            return place;
        }

        int flaw() {
            for (int i = 0; i < order.size(); i++) {
                if (broken(order.get(i))) {
                    return i;
                }
            }
            return NONE;
        }

        int turn() {
            List<Integer> turned = new ArrayList<>();
            for (int s : order) {
                turned.add(0, s);
            }
            order = turned;
            return order.size();
        }

        int feed(long word, int n) {
            if (!in(n, 1, 8)) {
                return BEYOND;
            }
            if (tape.length() + n > 50) {
                return FULL;
            }
            for (int i = 0; i < n; i++) {
                tape += (char) (word >> 8 * i & 255);
            }
            return tape.length();
        }

        int text(int use) {
            if (!in(use, 0, 1)) {
                return BEYOND;
            }
            String text = tape;
            tape = "";
            String names = use == 0 ? "clm" : "ghr";
            if (Cut.isWhole(text, names)) {
                texts[use] = text;
                return 1;
            }
            for (int i = 1; i <= text.length(); i++) {
                if (!Cut.goesOn(text.substring(0, i), names)) {
                    return -10 - (i - 1);
                }
            }
            return -10 - text.length();
        }

        int law(int use, int a, int b, int c) {
            if (!in(use, 0, 1)) {
                return BEYOND;
            }
            int v = use == 0 ? a * 10 : 100 - a - b * 5;
            if (texts[use] != null) {
                v = Cut.worth(texts[use], use == 0 ? "clm" : "ghr", new int[] {a, b, c});
            }
            return use == 0 ? Math.min(99, Math.max(0, v)) : Math.min(999, Math.max(-999, v));
        }

        /** All rows of so many, the first as a row first. */
        private static void rows(int n, List<Integer> begun, List<List<Integer>> all) {
            if (begun.size() == n) {
                all.add(new ArrayList<>(begun));
                return;
            }
            for (int i = 0; i < n; i++) {
                if (!begun.contains(i)) {
                    begun.add(i);
                    rows(n, begun, all);
                    begun.remove(begun.size() - 1);
                }
            }
        }

        private List<List<Integer>> allRows() {
            List<List<Integer>> all = new ArrayList<>();
            rows(scenes.size(), new ArrayList<>(), all);
            return all;
        }

        private int handsIn(List<Integer> row) {
            int hands = 0;
            for (int i = 0; i < row.size(); i++) {
                Given g = scenes.get(row.get(i));
                for (int k = i - 1; k >= 0 && g.prop < 4; k--) {
                    Given h = scenes.get(row.get(k));
                    if (h.prop == g.prop) {
                        int lies = back == 1 ? h.from : h.to;
                        int due = back == 1 ? g.to : g.from;
                        hands += lies == due ? 0 : 1;
                        break;
                    }
                }
            }
            return hands;
        }

        /** Asking the TEXT 5040 times over is slow: what is guessed is kept by SCENE and c. */
        private int[] amounts(boolean guesses) {
            List<List<Integer>> all = allRows();
            int n = scenes.size();
            int[][] by = new int[n][8];
            for (int s = 0; s < n; s++) {
                Given g = scenes.get(s);
                for (int c = 0; c < 8; c++) {
                    by[s][c] = law(0, c, g.minutes, g.m) + (c > 0 ? shock(g) : 0);
                }
            }
            int[] amounts = new int[all.size()];
            for (int i = 0; i < amounts.length; i++) {
                List<Integer> row = all.get(i);
                if (!guesses) {
                    amounts[i] = handsIn(row);
                    continue;
                }
                for (int place = 0; place < n; place++) {
                    int s = row.get(place);
                    int c = 0;
                    for (int later = place + 1; later < n; later++) {
                        c += scenes.get(s).causes >> row.get(later) & 1;
                    }
                    amounts[i] += by[s][c];
                }
            }
            return amounts;
        }

        private int best(boolean guesses, int what) {
            if (!in(what, -1, 6)) {
                return BEYOND;
            }
            if (what >= scenes.size()) {
                return NONE;
            }
            int[] amounts = amounts(guesses);
            int best = 0;
            for (int i = 0; i < amounts.length; i++) {
                if (amounts[i] < amounts[best]) {
                    best = i;
                }
            }
            return what == -1 ? amounts[best] : allRows().get(best).get(what);
        }

        int least(int what) {
            return best(true, what);
        }

        int fewest(int what) {
            return best(false, what);
        }

        int orders(int g) {
            if (!in(g, 0, 9999)) {
                return BEYOND;
            }
            int found = 0;
            for (int amount : amounts(true)) {
                found += amount <= g ? 1 : 0;
            }
            return found;
        }

        int mended(int s, int v, int what) {
            if (!is(s) || !in(v, 0, 1) || !in(what, 0, 1)) {
                return BEYOND;
            }
            for (int size = 0; size <= 7; size++) {
                for (int set = 0; set < 1 << scenes.size(); set++) {
                    int[] wills = wills();
                    boolean fits = Integer.bitCount(set) == size;
                    for (int i = 0; i < wills.length; i++) {
                        if ((set >> i & 1) == 1) {
                            wills[i] = 1 - wills[i];
                            fits &= scenes.get(i).causes == 0;
                        }
                    }
                    if (fits && outcome(wills)[s] == (v == 1)) {
                        return what == 0 ? size : set;
                    }
                }
            }
            return NONE;
        }

        int thought(int place) {
            if (!in(place, 0, scenes.size())) {
                return BEYOND;
            }
            boolean[] now = outcome(wills());
            int found = 0;
            for (int set = 0; set < 1 << scenes.size(); set++) {
                int[] wills = new int[scenes.size()];
                boolean fits = true;
                for (int i = 0; i < wills.length; i++) {
                    wills[i] = set >> i & 1;
                    fits &= wills[i] == 0 || scenes.get(i).causes == 0;
                }
                boolean[] then = outcome(wills);
                for (int i = 0; i < place; i++) {
                    fits &= then[order.get(i)] == now[order.get(i)];
                }
                found += fits ? 1 : 0;
            }
            return found;
        }

        int sure() {
            for (int place = 0; place <= scenes.size(); place++) {
                if (thought(place) == 1) {
                    return place;
                }
            }
            return NONE;
        }

        int explained(int s, int set) {
            if (!is(s) || !in(set, 0, (1 << scenes.size()) - 1)) {
                return BEYOND;
            }
            int was = scenes.get(s).kind;
            int found = NONE;
            for (int kind = 6; kind >= 0; kind--) {
                scenes.get(s).kind = kind;
                found = happening() == set ? kind : found;
            }
            scenes.get(s).kind = was;
            return found;
        }

        private int rises() {
            int rises = 0;
            for (int actor = 0; actor < 6; actor++) {
                boolean dead = false;
                for (int s : order) {
                    rises += dead && (scenes.get(s).cast >> actor & 1) == 1 ? 1 : 0;
                    dead |= victim(s) == actor;
                }
            }
            return rises;
        }

        int evenings(int n, boolean draws) {
            if (!in(n, 1, 200)) {
                return BEYOND;
            }
            if (evenings + n > 9999) {
                return STATE;
            }
            for (int i = 0; i < n; i++) {
                if (draws && scenes.size() > 1) {
                    z = z * 1103515245 + 12345;
                    int place = (z >>> 8) % (scenes.size() - 1);
                    order.add(place, order.remove(place + 1));
                }
                takings += law(1, guessedIn(order), handsIn(order), rises());
                takings = Math.min(99999, Math.max(-99999, takings));
                evenings++;
            }
            return takings;
        }

        int seed(int v) {
            int was = z;
            z = v;
            return was;
        }

        int voice(int s, int act, int x) {
            Given g = scenes.get(s);
            trace.clear();
            Voice[] voices = {new Voice(), new Letter(), new Joke(), new Death(), new Secret(), new Farce(), new Murder()};
            Voice voice = voices[g.kind];
            voice.n = s;
            voice.m = g.m;
            voice.trace = trace;
            return act == 0 ? voice.opens(x) : act == 1 ? voice.plays(x) : act == 2 ? voice.closes(x) : voice.tells(x);
        }

        int trace(int i) {
            return in(i, 0, Math.min(40, trace.size()) - 1) ? trace.get(i) : NONE;
        }

        int sheet(int s, int bits, int n) {
            if (!in(s, 0, 3) || bits != 0 && bits != 8 && bits != 16 && bits != 32) {
                return BEYOND;
            }
            if (bits == 0) {
                sheets[s] = null;
                return 1;
            }
            if (n < 0 || n > 40) {
                return n < 0 ? STATE : BEYOND;
            }
            sheets[s] = new int[n];
            widths[s] = bits;
            return 1;
        }

        int put(int s, int i, int v) {
            if (!in(s, 0, 3)) {
                return BEYOND;
            }
            if (sheets[s] == null) {
                return NONE;
            }
            if (!in(i, 0, sheets[s].length - 1)) {
                return BEYOND;
            }
            sheets[s][i] = widths[s] == 8 ? (byte) v : widths[s] == 16 ? (short) v : v;
            return 1;
        }

        int move(int s, int i, int other, int j, int n) {
            if (!in(s, 0, 3) || !in(other, 0, 3)) {
                return BEYOND;
            }
            if (sheets[s] == null || sheets[other] == null) {
                return NONE;
            }
            if (widths[s] != widths[other]) {
                return KIND;
            }
            if (n < 0 || i < 0 || j < 0 || (long) i + n > sheets[s].length || (long) j + n > sheets[other].length) {
                return BEYOND;
            }
            int[] were = sheets[s].clone();
            for (int k = 0; k < n; k++) {
                sheets[other][j + k] = were[i + k];
            }
            return n;
        }

        int order(int s) {
            if (!in(s, 0, 3)) {
                return BEYOND;
            }
            if (sheets[s] == null) {
                return NONE;
            }
            int[] sorted = sheets[s].clone();
            Arrays.sort(sorted);
            int[] want = new int[scenes.size()];
            for (int i = 0; i < want.length; i++) {
                want[i] = i;
            }
            if (!Arrays.equals(sorted, want)) {
                return STATE;
            }
            for (int i = 0; i < want.length; i++) {
                order.set(i, sheets[s][i]);
            }
            return want.length;
        }

        int judge(int s) {
            if (!in(s, 0, 3)) {
                return BEYOND;
            }
            if (sheets[s] == null) {
                return NONE;
            }
            boolean[] comes = outcome(wills());
            for (int i = 0; i < Math.max(comes.length, sheets[s].length); i++) {
                if (i >= comes.length || i >= sheets[s].length || sheets[s][i] != (comes[i] ? 1 : 0)) {
                    return i;
                }
            }
            return -1;
        }

        private void take(Model from) {
            scenes = new ArrayList<>();
            for (Given g : from.scenes) {
                scenes.add(g.copy());
            }
            order = new ArrayList<>(from.order);
            waiting = new ArrayList<>(from.waiting);
            tape = from.tape;
            texts = from.texts.clone();
            back = from.back;
            takings = from.takings;
            evenings = from.evenings;
            z = from.z;
        }

        int image() {
            image = new Model();
            image.take(this);
            return ++images;
        }

        int restore() {
            if (image == null) {
                return NONE;
            }
            take(image);
            return evenings;
        }

        int tell(int v) {
            if (waiting.size() == 20) {
                return FULL;
            }
            waiting.add(v);
            return waiting.size();
        }

        int check() {
            List<Integer> numbers = waiting;
            waiting = new ArrayList<>();
            for (int i = 0; i < numbers.size(); i++) {
                if (i >= scenes.size() || numbers.get(i) != guess(i)) {
                    return 1 + i;
                }
            }
            return 0;
        }

        int count(int what) {
            if (!in(what, 0, 11)) {
                return BEYOND;
            }
            int minutes = 0;
            for (Given g : scenes) {
                minutes += g.minutes;
            }
            int[] all = {scenes.size(), guessedIn(order), handsIn(order), rises(), back, takings, evenings, minutes,
                tape.length(), waiting.size(), Math.min(40, trace.size()), z};
            return all[what];
        }

        int told(int k) {
            return in(k, 1, 5) ? told[k] : BEYOND;
        }
    }

    private static class Voice {
        int n;
        int m;
        List<Integer> trace;

        int opens(int x) {
            trace.add(10);
            return x + n;
        }

        int plays(int x) {
            trace.add(11);
            return opens(x) * 2;
        }

        int closes(int x) {
            trace.add(12);
            return x - m;
        }

        int tells(int x) {
            trace.add(13);
            return plays(x) ^ closes(x);
        }
    }

    private static class Letter extends Voice {
        @Override
        int plays(int x) {
            trace.add(20);
            return super.plays(x) - closes(1);
        }
    }

    private static class Joke extends Voice {
        @Override
        int opens(int x) {
            trace.add(30);
            return super.opens(x) * 3;
        }
    }

    private static class Death extends Voice {
        @Override
        int closes(int x) {
            trace.add(40);
            return -super.closes(x);
        }
    }

    private static final class Secret extends Letter {
        @Override
        int plays(int x) {
            trace.add(50);
            return super.plays(x + 1);
        }
    }

    private static final class Farce extends Joke {
        @Override
        int tells(int x) {
            trace.add(60);
            return super.tells(x) - opens(2);
        }
    }

    private static final class Murder extends Death {
        @Override
        int closes(int x) {
            trace.add(70);
            return super.closes(x) ^ n;
        }

        @Override
        int tells(int x) {
            trace.add(71);
            return plays(x) - super.tells(x);
        }
    }

    /** TEXTS by cutting them at the signs that stand in no brackets, from the last one on. */
    private static final class Cut {
        private static final String[] SIGNS = {"|", "&", "<=>", "+-", "*/%"};

        static boolean isWhole(String text, String names) {
            return fits(text, names, 0, 0);
        }

        /** A TEXT that is begun ends by a number, if it wants one, and so many closing brackets. */
        static boolean goesOn(String begun, String names) {
            for (int open = 0; open <= 5; open++) {
                String closing = ")))))".substring(0, open);
                if (isWhole(begun + closing, names) || isWhole(begun + "1" + closing, names)) {
                    return true;
                }
            }
            return false;
        }

        /** The last place of a sign of a level that is in no brackets; -1: none. */
        private static int lastSign(String text, String signs) {
            int depth = 0;
            for (int i = text.length() - 1; i >= 0; i--) {
                char c = text.charAt(i);
                depth += c == ')' ? 1 : c == '(' ? -1 : 0;
                if (depth == 0 && signs.indexOf(c) >= 0) {
                    return i;
                }
            }
            return -1;
        }

        private static boolean fits(String text, String names, int level, int open) {
            if (level < 5) {
                int at = lastSign(text, SIGNS[level]);
                if (at < 0) {
                    return fits(text, names, level + 1, open);
                }
                return fits(text.substring(0, at), names, level == 2 ? 3 : level, open)
                        && fits(text.substring(at + 1), names, level + 1, open);
            }
            if (text.matches("[0-9]{1,4}") || text.length() == 1 && names.contains(text)) {
                return true;
            }
            if (open == 5) {
                return false;
            }
            if (text.startsWith("!")) {
                return fits(text.substring(1), names, 5, open + 1);
            }
            return text.length() > 1 && text.startsWith("(") && text.endsWith(")")
                    && fits(text.substring(1, text.length() - 1), names, 0, open + 1);
        }

        static int worth(String text, String names, int[] values) {
            return worth(text, names, values, 0);
        }

        private static int worth(String text, String names, int[] values, int level) {
            if (level < 5) {
                int at = lastSign(text, SIGNS[level]);
                if (at < 0) {
                    return worth(text, names, values, level + 1);
                }
                int left = worth(text.substring(0, at), names, values, level);
                int right = worth(text.substring(at + 1), names, values, level + 1);
                return joined(text.charAt(at), left, right);
            }
            if (text.startsWith("!")) {
                return worth(text.substring(1), names, values, 5) == 0 ? 1 : 0;
            }
            if (text.startsWith("(")) {
                return worth(text.substring(1, text.length() - 1), names, values, 0);
            }
            int name = names.indexOf(text);
            return name >= 0 ? values[name] : Integer.parseInt(text);
        }

        private static int joined(char sign, int a, int b) {
            boolean both = a != 0 && b != 0;
            boolean any = a != 0 || b != 0;
            String signs = "|&<=>";
            boolean[] truths = {any, both, a < b, a == b, a > b};
            if (signs.indexOf(sign) >= 0) {
                return truths[signs.indexOf(sign)] ? 1 : 0;
            }
            if (sign == '/' || sign == '%') {
                return b == 0 ? 0 : sign == '/' ? a / b : a % b;
            }
            return sign == '+' ? a + b : sign == '-' ? a - b : a * b;
        }
    }
}
