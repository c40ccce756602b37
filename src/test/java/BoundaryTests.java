import java.nio.charset.StandardCharsets;

/**
 * Each sentence of the document that names a boundary case: the least and the greatest, the empty and the full,
 * what wraps or is held. What is refused is asked by RefusalTests.
 */
public final class BoundaryTests {
    private static final int LOW = -1000000000;
    private static final int BEYOND = LOW - 1;
    private static final int NONE = LOW - 2;
    private static final int STATE = LOW - 3;
    private static final int FULL = LOW - 4;
    private static final int LEAST_INT = Integer.MIN_VALUE;
    private static final int GREATEST_INT = Integer.MAX_VALUE;
    /** What MOST_SCENES SCENES are as a set. */
    private static final int ALL = 127;
    private static final int MOST_SCENES = 7;

    private static final Page page = new Page("## Terms");

    public static void main(String[] args) {
        errors();
        scenes();
        comesOfKinds();
        comesOfWill();
        shocks();
        deaths();
        flaws();
        orders();
        guesses();
        understood();
        hands();
        rises();
        grammar();
        faults();
        values();
        uses();
        leastGuessed();
        fewestHands();
        ordersUpTo();
        mended();
        thought();
        explained();
        takings();
        draws();
        voices();
        traces();
        sheets();
        moves();
        ordersAndJudges();
        images();
        waiting();
        counts();
        manyCalls();
        page.endAnywhere();
    }

    private static void sentence(String... parts) {
        page.quotes(parts);
    }

    private static void due(String what, long got, long want) {
        page.due(what, got, want);
    }

    private static void dueRow(String what, String got, String want) {
        page.due(what, got, want);
    }

    // ---- what the tests set

    private static PlayedBack starts(int n) {
        PlayedBack x = new PlayedBack();
        for (int i = 0; i < n; i++) {
            x.scene(0, 0, 1, 0);
        }
        return x;
    }

    /** Rows of km, CAUSES, CAST. */
    private static PlayedBack played(int[]... rows) {
        PlayedBack x = new PlayedBack();
        for (int[] row : rows) {
            x.scene(row[0], row[1], 1, row[2]);
        }
        return x;
    }

    /** SCENES each of which comes of the one before. */
    private static PlayedBack chain(int n) {
        PlayedBack x = new PlayedBack();
        for (int i = 0; i < n; i++) {
            x.scene(0, i == 0 ? 0 : 1 << i - 1, 1, 0);
        }
        return x;
    }

    private static void willBe(PlayedBack x, int set) {
        for (int i = 0; i < x.count(0); i++) {
            x.set(i, 6, set >> i & 1);
        }
    }

    private static void lay(PlayedBack x, int sheet, int bits, int... row) {
        x.sheet(sheet, bits, row.length);
        for (int i = 0; i < row.length; i++) {
            x.put(sheet, i, row[i]);
        }
    }

    private static void give(PlayedBack x, String row) {
        x.sheet(3, 8, row.length());
        for (int i = 0; i < row.length(); i++) {
            x.put(3, i, row.charAt(i) - '0');
        }
        x.order(3);
    }

    private static void dueOrder(String what, PlayedBack x, String want) {
        StringBuilder got = new StringBuilder();
        for (int i = 0; i < x.count(0); i++) {
            got.append(x.given(i));
        }
        dueRow(what, got.toString(), want);
    }

    private static String leastRow(PlayedBack x) {
        StringBuilder row = new StringBuilder();
        for (int i = 0; i < x.count(0); i++) {
            row.append(x.least(i));
        }
        return row.toString();
    }

    private static String fewestRow(PlayedBack x) {
        StringBuilder row = new StringBuilder();
        for (int i = 0; i < x.count(0); i++) {
            row.append(x.fewest(i));
        }
        return row.toString();
    }

    private static void feed(PlayedBack x, String text) {
        for (byte b : text.getBytes(StandardCharsets.ISO_8859_1)) {
            x.feed(b, 1);
        }
    }

    private static int text(PlayedBack x, int use, String text) {
        feed(x, text);
        return x.text(use);
    }

    /** What is wide enough to show most of an int: CLAP's numbers, without being held. */
    private static int worth(String text, int a, int b, int c) {
        PlayedBack x = new PlayedBack();
        int read = text(x, 1, text);
        return read == 1 ? x.law(1, a, b, c) : read;
    }

    private static String times(String part, int n) {
        StringBuilder s = new StringBuilder();
        for (int i = 0; i < n; i++) {
            s.append(part);
        }
        return s.toString();
    }

    // ---- Terms, and 1: SCENES

    private static void errors() {
        sentence("ERRORS are answers below -1000000000: LOW is -1000000000; LOW - 1 BEYOND, LOW - 2 NONE, LOW - 3 STATE");
        PlayedBack x = starts(7);
        due("BEYOND", x.given(7), -1000000001);
        due("NONE", x.flaw(), -1000000002);
        due("STATE", x.sheet(0, 8, -1), -1000000003);
        due("FULL", x.scene(0, 0, 1, 0), -1000000004);
        due("KIND", x.as(0, 1), -1000000005);
    }

    private static void scenes() {
        sentence("SCENES 0, 1, .. (at most 7), in the order in which they happen");
        PlayedBack x = new PlayedBack();
        for (int i = 0; i < MOST_SCENES; i++) {
            sentence("SCENES 0, 1, .. (at most 7), in the order in which they happen");
            due("how many ahead of " + i, x.count(0), i);
            due("its number", x.scene(0, 0, 1, 0), i);
            sentence("a new SCENE comes first (so that the latest is first)");
            due("the first", x.given(0), i);
            due("the last", x.given(i), 0);
        }
        due("an eighth", x.scene(0, 0, 1, 0), FULL);
        dueOrder("all", x, "6543210");
        sentence("a number m (0 to 9)", "km: 10 times the KIND, and m");
        for (int km = 0; km <= 69; km++) {
            x.become(6, km);
            due("KIND of " + km, x.ofScene(6, 0), km / 10);
            due("m of " + km, x.ofScene(6, 1), km % 10);
            PlayedBack y = new PlayedBack();
            y.scene(km, 0, 1, 0);
            due("KIND of a new one of " + km, y.ofScene(0, 0), km / 10);
            due("m of a new one of " + km, y.ofScene(0, 1), km % 10);
        }
        causes();
        minutesAndCasts();
        spots();
        sentence("WILL (0 or 1; 1 at first)");
        due("at first", x.ofScene(0, 6), 1);
        due("to 0", x.set(0, 6, 0), 1);
        due("0", x.ofScene(0, 6), 0);
        due("to 0 again", x.set(0, 6, 0), 0);
        due("to 1", x.set(0, 6, 1), 0);
        due("1", x.ofScene(0, 6), 1);
    }

    private static void causes() {
        sentence("CAUSES (a set of SCENES of lesser numbers, as bits)", "BEYOND: also CAUSES that there are not");
        for (int n = 0; n < MOST_SCENES; n++) {
            int all = (1 << n) - 1;
            due("one more than the greatest set of " + n, starts(n).scene(0, all + 1, 1, 0), BEYOND);
            due("below the least", starts(n).scene(0, -1, 1, 0), BEYOND);
            for (int set = 0; set <= all; set++) {
                PlayedBack x = starts(n);
                due("a SCENE of " + set, x.scene(0, set, 1, 0), n);
                due("its CAUSES", x.ofScene(n, 2), set);
            }
        }
    }

    private static void minutesAndCasts() {
        sentence("LONG (1 to 30 minutes)");
        PlayedBack x = starts(2);
        int was = 1;
        for (int v = 1; v <= 30; v++) {
            due("to " + v, x.set(0, 3, v), was);
            due("LONG then", x.ofScene(0, 3), v);
            due("LONG of another", x.ofScene(1, 3), 1);
            was = v;
        }
        due("31", x.set(0, 3, 31), BEYOND);
        due("0", x.set(0, 3, 0), BEYOND);
        sentence("a CAST (of ACTORS 0 to 5, as bits)");
        was = 0;
        for (int v = 0; v <= 63; v++) {
            due("to " + v, x.set(1, 4, v), was);
            due("CAST then", x.ofScene(1, 4), v);
            was = v;
        }
        due("64", x.set(1, 4, 64), BEYOND);
        due("-1", x.set(1, 4, -1), BEYOND);
        due("CAST of another", x.ofScene(0, 4), 0);
    }

    private static void spots() {
        sentence("a PROP (0 to 3, or 4: none) that it TAKES at a SPOT (0 to 5) and LEAVES at one");
        for (int prop = 0; prop <= 3; prop++) {
            PlayedBack x = starts(2);
            due("none at first", x.ofScene(0, 5), 4);
            for (int from = 0; from <= 5; from++) {
                for (int to = 0; to <= 5; to++) {
                    x.prop(0, prop, 2, to);
                    x.prop(1, prop, from, 3);
                    x.back(0);
                    give(x, "01");
                    due("left at " + to + ", taken at " + from, x.count(2), from == to ? 0 : 1);
                }
            }
            due("it has it", x.ofScene(0, 5), prop);
            x.prop(0, 4, 99, -99);
            due("it has none", x.ofScene(0, 5), 4);
        }
    }

    private static boolean comes(int kind, int m, int n, int t) {
        boolean[] byKind = {t == n, t >= 1, t % 2 == 1, t < n, t >= 1 + m % 3, (t + m) % 2 == 1, m > 4 || t < n};
        return byKind[kind];
    }

    private static void comesOfKinds() {
        String[] words = {
            "SCENE: if t is n", "LETTER: if t is 1 at least", "JOKE: if t is odd", "DEATH: if t is below n",
            "SECRET: if t is 1 and m modulo 3 at least", "FARCE: as JOKE, or, if m is odd, just if that doesn't",
            "MURDER: as DEATH, or, if m is above 4, always",
        };
        for (int n = 1; n < MOST_SCENES; n++) {
            for (int t = 0; t <= n; t++) {
                PlayedBack x = starts(n);
                willBe(x, (1 << t) - 1);
                x.scene(0, (1 << n) - 1, 1, 0);
                for (int km = 0; km <= 69; km++) {
                    sentence(words[km / 10]);
                    x.become(n, km);
                    String what = "m " + km % 10 + ", n " + n + ", t " + t;
                    due(what, x.ofScene(n, 7), comes(km / 10, km % 10, n, t) ? 1 : 0);
                    due(what + " as bits", x.comes() >> n, comes(km / 10, km % 10, n, t) ? 1 : 0);
                }
            }
        }
        sentence("With n CAUSES, of which t COME");
        PlayedBack y = chain(7);
        due("all", y.comes(), ALL);
        y.become(3, 30);
        due("up to the DEATH of what comes", y.comes(), 7);
        y.set(0, 6, 0);
        due("from the DEATH of what doesn't on", y.comes(), 120);
    }

    private static void comesOfWill() {
        sentence("COMES (whether it happens): one without CAUSES: WILL");
        for (int km = 0; km <= 69; km++) {
            PlayedBack x = starts(7);
            x.become(6, km);
            due("WILL 1 of " + km, x.comes(), ALL);
            x.set(6, 6, 0);
            due("WILL 0 of " + km, x.comes(), 63);
        }
        for (int set = 0; set <= ALL; set++) {
            PlayedBack x = starts(7);
            willBe(x, set);
            due("by WILLS of " + set, x.comes(), set);
        }
        sentence("With n CAUSES, of which t COME");
        PlayedBack x = played(new int[] {0, 0, 0}, new int[] {0, 1, 0});
        x.set(1, 6, 0);
        due("WILL 0 of one with CAUSES", x.comes(), 3);
        x.set(0, 6, 0);
        x.set(1, 6, 1);
        due("WILL 1 of one with CAUSES", x.comes(), 0);
        due("none", new PlayedBack().comes(), 0);
    }

    private static void shocks() {
        String[] words = {
            "SHOCK (what one guesses beside): SCENE: 0", "(Others as the KIND above.)", "JOKE: m", "DEATH: 5",
            "(Others as the KIND above.)", "(Others as the KIND above.)", "MURDER: as DEATH, and m",
        };
        for (int km = 0; km <= 69; km++) {
            sentence(words[km / 10]);
            int m = km % 10;
            int[] want = {0, 0, m, 5, 0, m, 5 + m};
            PlayedBack x = played(new int[] {0, 0, 0}, new int[] {km, 1, 0});
            due("of " + km, x.ofScene(1, 8), want[km / 10]);
            due("GUESS of " + km + " ahead of its CAUSE", x.guess(0), 10 + want[km / 10]);
            x.turn();
            due("GUESS of " + km + " behind its CAUSE", x.guess(1), 0);
        }
    }

    private static void deaths() {
        sentence("A DEATH (and what is under it) that COMES kills the least ACTOR of its CAST");
        for (int cast = 0; cast <= 63; cast++) {
            int least = -1;
            for (int actor = 5; actor >= 0; actor--) {
                least = (cast >> actor & 1) == 1 ? actor : least;
            }
            for (int kind = 0; kind <= 6; kind++) {
                PlayedBack x = played(new int[] {kind * 10, 0, cast});
                due("KIND " + kind + " of CAST " + cast, x.ofScene(0, 9), kind == 3 || kind == 6 ? least : -1);
                x.set(0, 6, 0);
                due("KIND " + kind + " that doesn't come", x.ofScene(0, 9), -1);
            }
        }
    }

    private static void flaws() {
        sentence("BROKEN is a SCENE that has an ACTOR in its CAST who was killed by one of a lesser number");
        for (int killer = 0; killer < MOST_SCENES; killer++) {
            for (int actor = 0; actor < 6; actor++) {
                PlayedBack x = new PlayedBack();
                for (int i = 0; i < MOST_SCENES; i++) {
                    x.scene(i == killer ? 30 : 0, 0, 1, 63 & -(1 << actor));
                }
                x.set(6, 4, 63 ^ 1 << actor);
                for (int i = 0; i < MOST_SCENES; i++) {
                    due(i + " of a DEATH in " + killer, x.ofScene(i, 10), i > killer && i < 6 ? 1 : 0);
                }
            }
        }
        PlayedBack late = played(new int[] {0, 0, 0}, new int[] {40, 1, 1}, new int[] {30, 1, 3}, new int[] {0, 0, 2}, new int[] {60, 0, 3});
        due("killed by one that doesn't come", late.ofScene(4, 10), 0);
        late.set(0, 6, 0);
        due("killed by one that comes", late.ofScene(4, 10), 1);
        due("another of the CAST", late.ofScene(3, 10), 0);
        sentence("FIRST FLAW: the first place in THE ORDER of a SCENE that is BROKEN");
        PlayedBack x = new PlayedBack();
        x.scene(30, 0, 1, 1);
        for (int i = 1; i < MOST_SCENES; i++) {
            x.scene(0, 0, 1, i == 6 ? 1 : 0);
        }
        for (int place = 0; place < MOST_SCENES; place++) {
            x.place(6, place);
            due("at place " + place, x.flaw(), place);
        }
        x.set(1, 4, 1);
        x.place(1, 2);
        due("the first of two", x.flaw(), 2);
        x.turn();
        due("the first of two, turned", x.flaw(), 0);
        sentence("FIRST FLAW. NONE: there is none");
        x.set(0, 6, 0);
        due("no DEATH comes", x.flaw(), NONE);
        due("no SCENES", new PlayedBack().flaw(), NONE);
        due("a DEATH alone isn't BROKEN by itself", played(new int[] {30, 0, 1}).flaw(), NONE);
    }

    // ---- THE ORDER

    private static void orders() {
        sentence("A SCENE goes to a place in THE ORDER, the others stay one behind the other: the place where it was");
        for (int from = 0; from < MOST_SCENES; from++) {
            for (int to = 0; to < MOST_SCENES; to++) {
                PlayedBack x = starts(7);
                due("from " + from + " to " + to, x.place(6 - from, to), from);
                StringBuilder want = new StringBuilder("6543210");
                want.deleteCharAt(from).insert(to, 6 - from);
                dueOrder("then", x, want.toString());
            }
        }
        due("the only one", starts(1).place(0, 0), 0);
        sentence("THE ORDER is turned round: how many SCENES");
        for (int n = 0; n <= MOST_SCENES; n++) {
            PlayedBack x = starts(n);
            due("turned", x.turn(), n);
            dueOrder("of " + n, x, "0123456".substring(0, n));
        }
        sentence("a new SCENE comes first");
        PlayedBack x = starts(3);
        x.turn();
        x.scene(0, 0, 1, 0);
        dueOrder("in a turned ORDER", x, "3012");
        sentence("BACK: 1 if SCENES themselves are given from their ends too, else 0; 1 at first");
        due("at first", x.count(4), 1);
        due("to 1", x.back(1), 1);
        due("to 0", x.back(0), 1);
        due("0 then", x.count(4), 0);
        due("to 0 again", x.back(0), 0);
        due("to 1 again", x.back(1), 0);
    }

    private static void guesses() {
        sentence("c being how many of its CAUSES aren't given ahead of it");
        for (int n = 0; n < MOST_SCENES; n++) {
            PlayedBack x = starts(n);
            x.scene(0, (1 << n) - 1, 1, 0);
            for (int place = 0; place <= n; place++) {
                x.place(n, place);
                due("of " + n + " at place " + place, x.guess(place), (n - place) * 10);
                sentence("GUESSED: all together");
                due("together", x.count(1), (n - place) * 10);
                sentence("c being how many of its CAUSES aren't given ahead of it");
            }
        }
        sentence("SHOCK beside, if c is above 0");
        PlayedBack x = played(new int[] {69, 0, 0}, new int[] {0, 0, 0}, new int[] {69, 3, 0});
        due("c 2", x.guess(0), 34);
        due("without CAUSES", x.guess(2), 0);
        x.place(0, 0);
        due("c 1", x.guess(1), 24);
        x.place(1, 0);
        due("c 0", x.guess(2), 0);
        sentence("by the TEXT", "and SHOCK beside", "held within 0 to 99");
        text(x, 0, "c*50");
        due("c 0", x.guess(2), 0);
        x.place(2, 1);
        due("c 1", x.guess(1), 50 + 14);
        x.place(2, 0);
        due("c 2, held", x.guess(0), 99 + 14);
        text(x, 0, "0-9999");
        due("c 2, held below", x.guess(0), 14);
        text(x, 0, "7");
        due("by the TEXT, c 0", x.guess(1), 7);
        text(x, 0, "l*10+m");
        x.set(2, 3, 8);
        due("LONG and m of the SCENE", x.guess(0), 89 + 14);
        due("LONG and m of another", x.guess(2), x.given(2) == 0 ? 19 : 10);
        sentence("GUESSED: all together");
        due("all", x.count(1), x.guess(0) + x.guess(1) + x.guess(2));
        due("of no SCENES", new PlayedBack().count(1), 0);
        PlayedBack most = new PlayedBack();
        for (int i = 0; i < MOST_SCENES; i++) {
            most.scene(69, (1 << i) - 1, 30, 63);
        }
        text(most, 0, "9999");
        due("the most that can be", most.count(1), 7 * 99 + 6 * 14);
        due("orders with less", most.orders(776), 5040 - 720);
        due("orders with as much", most.orders(777), 5040);
        due("the least of it", most.least(-1), 7 * 99);
    }

    private static void understood() {
        sentence("UNDERSTOOD: by which place of THE ORDER (from 0) a SCENE and all that it comes of (CAUSES of CAUSES, too) were given");
        PlayedBack x = chain(7);
        for (int i = 0; i < MOST_SCENES; i++) {
            due("latest first, " + i, x.understood(i), 6);
        }
        x.turn();
        for (int i = 0; i < MOST_SCENES; i++) {
            due("as they happen, " + i, x.understood(i), i);
        }
        give(x, "1065432");
        int[] want = {1, 1, 6, 6, 6, 6, 6};
        for (int i = 0; i < MOST_SCENES; i++) {
            due("mixed, " + i, x.understood(i), want[i]);
        }
        give(x, "6012345");
        due("by CAUSES of CAUSES of CAUSES, all behind", x.understood(6), 6);
        give(x, "5432160");
        due("by the first of all, at the last place", x.understood(6), 6);
        give(x, "5432106");
        due("by itself, at the last place", x.understood(6), 6);
        due("by the first of all, at the last place but one", x.understood(5), 5);
        due("one alone at place 0", starts(1).understood(0), 0);
        due("one that comes of none, at place 0", starts(7).understood(6), 0);
        PlayedBack fork = played(new int[] {0, 0, 0}, new int[] {0, 0, 0}, new int[] {0, 2, 0}, new int[] {0, 1, 0}, new int[] {0, 12, 0});
        give(fork, "32140");
        due("by the one side of a fork", fork.understood(4), 4);
        due("by 0", fork.understood(3), 4);
        due("by 1", fork.understood(2), 2);
        give(fork, "03241");
        due("by the other side", fork.understood(4), 4);
        due("by 0 ahead", fork.understood(3), 1);
    }

    private static void hands() {
        sentence("with none it lies where it should");
        PlayedBack x = starts(3);
        due("no PROPS", x.count(2), 0);
        x.prop(1, 3, 2, 4);
        due("one alone", x.count(2), 0);
        x.prop(0, 2, 1, 3);
        due("two of unlike PROPS", x.count(2), 0);
        due("no SCENES", new PlayedBack().count(2), 0);
        sentence("it lies where the SCENE with it that was given latest ended");
        PlayedBack y = starts(4);
        y.back(0);
        y.prop(0, 1, 0, 1);
        y.prop(1, 1, 5, 2);
        y.prop(2, 1, 1, 3);
        y.prop(3, 4, 0, 0);
        give(y, "0123");
        due("not where an earlier one ended", y.count(2), 2);
        give(y, "0213");
        due("where the latest ended", y.count(2), 1);
        give(y, "0321");
        due("one without a PROP between", y.count(2), 1);
        sentence("With BACK a SCENE begins where it LEAVES it, and ends where it TAKES it; else the other way round");
        PlayedBack z = starts(2);
        z.prop(0, 0, 0, 1);
        z.prop(1, 0, 1, 2);
        due("with BACK, the latest first", z.count(2), 0);
        z.turn();
        due("with BACK, as they happen", z.count(2), 1);
        z.back(0);
        due("without, as they happen", z.count(2), 0);
        z.turn();
        due("without, the latest first", z.count(2), 1);
        sentence("HANDS: how many SCENES with a PROP find it elsewhere");
        PlayedBack most = starts(7);
        for (int i = 0; i < MOST_SCENES; i++) {
            most.prop(i, 3, 0, 5);
        }
        due("all but the first", most.count(2), 6);
        due("in any order", most.fewest(-1), 6);
        most.back(0);
        due("all but the first, without BACK", most.count(2), 6);
    }

    private static void rises() {
        sentence("in the CAST of the SCENE given there, and in that of one ahead of it in THE ORDER in which it was killed");
        PlayedBack x = new PlayedBack();
        x.scene(30, 0, 1, 63);
        for (int i = 1; i < MOST_SCENES; i++) {
            x.scene(0, 0, 1, 63);
        }
        for (int place = 0; place < MOST_SCENES; place++) {
            x.place(0, place);
            due("killed at place " + place, x.count(3), 6 - place);
        }
        sentence("RISES: how many pairs of an ACTOR and a place there are");
        x.place(0, 0);
        x.become(1, 60);
        x.set(1, 4, 62);
        x.place(1, 1);
        due("two killed ahead of five places", x.count(3), 10);
        x.set(1, 4, 63);
        due("one killed twice, once a place", x.count(3), 6);
        x.set(1, 4, 32);
        due("the last ACTOR, too", x.count(3), 10);
        x.set(0, 4, 0);
        due("nobody killed by the first", x.count(3), 5);
        x.set(1, 6, 0);
        due("no DEATH comes", x.count(3), 0);
        due("no SCENES", new PlayedBack().count(3), 0);
        PlayedBack y = played(new int[] {30, 0, 1}, new int[] {0, 0, 1});
        due("killed behind", y.count(3), 0);
        y.turn();
        due("killed ahead", y.count(3), 1);
        y.set(1, 6, 0);
        due("in one that doesn't come", y.count(3), 1);
        y.set(1, 4, 2);
        due("not in its CAST", y.count(3), 0);
    }

    // ---- 2: TEXTS

    private static void grammar() {
        sentence("T: A { | A }. A: B { & B }.", "S: P { + P, - P }. P: Q { * Q, / Q, % Q }");
        for (String sign : new String[] {"|", "&", "+", "-", "*", "/", "%"}) {
            due("one " + sign, text(new PlayedBack(), 0, "c" + sign + "l"), 1);
            due("24 " + sign, text(new PlayedBack(), 0, "c" + times(sign + "l", 24)), 1);
            due("one " + sign + " without its right", text(new PlayedBack(), 0, "c" + sign), -12);
            due("one " + sign + " without its left", text(new PlayedBack(), 0, sign + "c"), -10);
        }
        sentence("B: S, or S < S, S = S, S > S");
        for (String sign : new String[] {"<", "=", ">"}) {
            due("none", text(new PlayedBack(), 0, "c"), 1);
            due("one " + sign, text(new PlayedBack(), 0, "c" + sign + "l"), 1);
            for (String second : new String[] {"<", "=", ">"}) {
                due("two", text(new PlayedBack(), 0, "c" + sign + "l" + second + "m"), -13);
                due("two in brackets", text(new PlayedBack(), 0, "(c" + sign + "l" + second + "m)"), -14);
                due("the second in brackets", text(new PlayedBack(), 0, "c" + sign + "(l" + second + "m)"), 1);
                due("one on each side of &", text(new PlayedBack(), 0, "c" + sign + "l&l" + second + "m"), 1);
                due("one on each side of |", text(new PlayedBack(), 0, "c" + sign + "l|l" + second + "m"), 1);
            }
        }
        sentence("a NUMBER of 1 to 4 digits");
        int[] values = {7, 42, 901, 9999};
        for (int digits = 0; digits < 4; digits++) {
            due(digits + 1 + " digits", worth(values[digits] + "%1000", 0, 0, 0), values[digits] % 1000);
        }
        due("5 digits", text(new PlayedBack(), 0, "12345"), -14);
        due("5 digits of 0", text(new PlayedBack(), 0, "00000"), -14);
        due("5 digits behind a sign", text(new PlayedBack(), 0, "c+12345"), -16);
        due("0000", worth("0000", 9, 9, 9), 0);
        due("0009", worth("0009", 0, 0, 0), 9);
        sentence("No blanks");
        for (String text : new String[] {" c", "c ", "c +l", "c+ l", "( c)", "! c"}) {
            due("in " + text, text(new PlayedBack(), 0, text), -10 - text.indexOf(' '));
        }
        opens();
    }

    private static void opens() {
        sentence("At most 5 of ! and ( are open at once");
        for (int set = 0; set < 64; set++) {
            StringBuilder open = new StringBuilder();
            StringBuilder closing = new StringBuilder();
            for (int i = 0; i < 6; i++) {
                boolean bracket = (set >> i & 1) == 1;
                open.append(bracket ? '(' : '!');
                closing.append(bracket ? ")" : "");
            }
            String six = open.toString();
            due(six, text(new PlayedBack(), 0, six + "c" + closing), -15);
            String five = six.substring(0, 5);
            String closed = closing.substring(0, closing.length() - (set >> 5 & 1));
            due(five, text(new PlayedBack(), 0, five + "c" + closed), 1);
            due(five + " and a sixth alone", text(new PlayedBack(), 0, six), -15);
            due(five + " alone", text(new PlayedBack(), 0, five), -15);
        }
        due("a ! is closed behind its Q", text(new PlayedBack(), 0, "!c&!c&!c&!c&!c&!c&!c"), 1);
        due("a ( is closed behind its )", text(new PlayedBack(), 0, "(c)&(c)&(c)&(c)&(c)&(c)"), 1);
        due("four and then five again", text(new PlayedBack(), 0, "((((c))))+(((((c)))))"), 1);
        due("a ! within five", text(new PlayedBack(), 0, "(((((c+!c)))))"), -17);
        due("a ! within four", text(new PlayedBack(), 0, "((((c+!c))))"), 1);
        due("a ( behind ! within four", text(new PlayedBack(), 0, "((((!c+(c)))))"), 1);
    }

    private static final String OPERAND = "0123456789clm";
    private static final String SIGNS = "|&<=>+-*/%";

    private static void faults() {
        sentence("FAULT: the place of the first byte with which no TEXT goes on");
        goesOnWith("", OPERAND, "!(");
        goesOnWith("c", "", SIGNS);
        goesOnWith("!", OPERAND, "!(");
        goesOnWith("(", "", OPERAND + "!(");
        goesOnWith("c+", OPERAND, "!(");
        goesOnWith("1", "0123456789", SIGNS);
        goesOnWith("123", "0123456789", SIGNS);
        goesOnWith("1234", "", SIGNS);
        goesOnWith("c<1", "0123456789", "|&+-*/%");
        goesOnWith("c=l", "", "|&+-*/%");
        goesOnWith("c>l*m", "", "|&+-*/%");
        goesOnWith("c>l&m", "", SIGNS);
        goesOnWith("(c", ")", SIGNS);
        goesOnWith("(c<l", ")", "|&+-*/%");
        goesOnWith("(c)", "", SIGNS);
        goesOnWith("(c<l)", "", SIGNS);
        goesOnWith("((c)", ")", SIGNS);
        goesOnWith("!!!!", OPERAND, "!(");
        goesOnWith("!!!!!", OPERAND, "");
        goesOnWith("(((((", "", OPERAND);
        goesOnWith("!c", "", SIGNS);
        sentence("NAMES c what isn't given, l LONG, m m", "NAMES g GUESSED, h HANDS, r RISES");
        for (int use = 0; use <= 1; use++) {
            String names = use == 0 ? "clm" : "ghr";
            for (int b = 'a'; b <= 'z'; b++) {
                String name = String.valueOf((char) b);
                due(name + " of " + use, text(new PlayedBack(), use, name), names.contains(name) ? 1 : -10);
            }
        }
        tooEarly();
    }

    /** Of all 256 bytes: with some it is whole, with some a TEXT goes on; all others are the FAULT. */
    private static void goesOnWith(String begun, String whole, String on) {
        int at = begun.length();
        for (int b = 0; b < 256; b++) {
            String text = begun + (char) b;
            int want = whole.indexOf(b) >= 0 ? 1 : -10 - (on.indexOf(b) >= 0 ? at + 1 : at);
            due("\"" + begun + "\" and byte " + b, text(new PlayedBack(), 0, text), want);
        }
    }

    private static void tooEarly() {
        sentence("how many there are, if it ends too early");
        due("none", new PlayedBack().text(0), -10);
        due("none, of the other USE", new PlayedBack().text(1), -10);
        String text = "(((((c+l*m|12<3)))))-!(1&2)";
        for (int i = 0; i < text.length(); i++) {
            String begun = text.substring(0, i);
            due("up to " + i, text(new PlayedBack(), 0, begun), i == 20 ? 1 : -10 - i);
        }
        due("all", text(new PlayedBack(), 0, text), 1);
        sentence("THE TAPE (bytes, at most 50)");
        due("49 bytes", text(new PlayedBack(), 0, "c" + times("+c", 24)), 1);
        due("50 bytes", text(new PlayedBack(), 0, "c" + times("+c", 22) + "+1234"), 1);
        due("50 bytes, too early", text(new PlayedBack(), 0, times("c+", 25)), -60);
        due("50 bytes, not closed", text(new PlayedBack(), 0, "(" + times("c+", 24) + "c"), -60);
        due("50 bytes, the last the FAULT", text(new PlayedBack(), 0, "c" + times("+c", 24) + "c"), -59);
        due("50 bytes, the last one ) too many", text(new PlayedBack(), 0, "c" + times("+c", 24) + ")"), -59);
        PlayedBack x = new PlayedBack();
        feed(x, times("c+", 25));
        due("a 51st", x.feed('c', 1), FULL);
        due("50 stay", x.count(8), 50);
        due("and are read", x.text(0), -60);
        due("THE TAPE is empty", x.count(8), 0);
        PlayedBack most = new PlayedBack();
        text(most, 1, "1" + times("+1", 22) + "+1234");
        due("what 50 bytes give", most.law(1, 0, 0, 0), 999);
        text(most, 1, "1" + times("+1", 22) + "-1234");
        due("what 50 bytes give below", most.law(1, 0, 0, 0), -999);
        text(most, 1, "1" + times("-1", 24));
        due("what 49 bytes give", most.law(1, 0, 0, 0), -23);
        feedWords();
    }

    private static void feedWords() {
        sentence("The n lowest bytes (1 .. 8) of a word, the lowest first, come to THE TAPE: how many there are");
        for (int n = 1; n <= 8; n++) {
            PlayedBack x = new PlayedBack();
            long word = 0x2b322b312b332b63L;
            due("the " + n + " lowest", x.feed(word, n), n);
            due("so many", x.count(8), n);
            due("as they stand", x.text(0), n % 2 == 0 ? -10 - n : 1);
            String[] worths = {"", "1", "", "4", "", "5", "", "7"};
            if (n % 2 == 1) {
                due("the lowest first", x.law(0, 1, 0, 0), Integer.parseInt(worths[n]));
            }
        }
        PlayedBack x = new PlayedBack();
        due("a word below 0", x.feed(0xffffffffffffff63L, 1), 1);
        due("its lowest byte alone", x.text(0), 1);
        due("all eight", x.feed(0x31312b312b312b31L, 8), 8);
        due("they are whole", x.text(0), 1);
        due("the highest byte last", x.law(0, 0, 0, 0), 14);
        due("eight of a word below 0", x.feed(0xff312b312b312b31L, 8), 8);
        due("the highest byte is the FAULT", x.text(0), -17);
    }

    private static void values() {
        sentence("Ints that wrap");
        due("+ above", worth("g+1<0", GREATEST_INT, 0, 0), 1);
        due("- below", worth("g-1>0", LEAST_INT, 0, 0), 1);
        due("0 - the least", worth("0-g=g", LEAST_INT, 0, 0), 1);
        due("*", worth("g*h", 1 << 31, 2, 0), 0);
        due("* to below 0", worth("g*h", 0x10000, 0x8000, 0), -999);
        due("* of the greatest", worth("g*h", GREATEST_INT, GREATEST_INT, 0), 1);
        due("NUMBERS", worth("9999*9999*9999%1000", 0, 0, 0), 9999 * 9999 * 9999 % 1000);
        sentence("/ cut, % the rest that it leaves");
        int[][] pairs = {{7, 2}, {-7, 2}, {7, -2}, {-7, -2}, {6, 3}, {1, 9}, {-1, 9}, {999, 1000}, {LEAST_INT, -1}, {LEAST_INT, 1 << 24}};
        for (int[] pair : pairs) {
            int quotient = Math.max(-999, Math.min(999, pair[0] / pair[1]));
            due(pair[0] + " / " + pair[1], worth("g/h", pair[0], pair[1], 0), quotient);
            due(pair[0] + " % " + pair[1], worth("g%h", pair[0], pair[1], 0), pair[0] % pair[1]);
        }
        sentence("both by 0 are 0");
        for (int a : new int[] {LEAST_INT, -1, 0, 1, GREATEST_INT}) {
            due(a + " / 0", worth("g/h", a, 0, 0), 0);
            due(a + " % 0", worth("g%h", a, 0, 0), 0);
            due(a + " / 0 and more", worth("g/(h-h)+5", a, 3, 0), 5);
            due(a + " % 0 and more", worth("g%0+5", a, 3, 0), 5);
        }
        sentence("| & < = > ! are 1 or 0, what is not 0 being true");
        int[] some = {LEAST_INT, -2, -1, 0, 1, 2, GREATEST_INT};
        for (int a : some) {
            due("!", worth("!g", a, 0, 0), a == 0 ? 1 : 0);
            due("!!", worth("!!g", a, 0, 0), a == 0 ? 0 : 1);
            for (int b : some) {
                due(a + " | " + b, worth("g|h", a, b, 0), a != 0 || b != 0 ? 1 : 0);
                due(a + " & " + b, worth("g&h", a, b, 0), a != 0 && b != 0 ? 1 : 0);
                due(a + " < " + b, worth("g<h", a, b, 0), a < b ? 1 : 0);
                due(a + " = " + b, worth("g=h", a, b, 0), a == b ? 1 : 0);
                due(a + " > " + b, worth("g>h", a, b, 0), a > b ? 1 : 0);
            }
        }
        levels();
    }

    private static void levels() {
        sentence("S: P { + P, - P }. P: Q { * Q, / Q, % Q }");
        due("-, -", worth("10-4-3", 0, 0, 0), 3);
        due("-, +", worth("10-4+3", 0, 0, 0), 9);
        due("/, /", worth("100/10/2", 0, 0, 0), 5);
        due("/, *", worth("100/10*2", 0, 0, 0), 20);
        due("%, *", worth("17%10*2", 0, 0, 0), 14);
        due("*, %", worth("17*3%10", 0, 0, 0), 1);
        due("%, %", worth("57%10%4", 0, 0, 0), 3);
        sentence("T: A { | A }. A: B { & B }. B: S, or S < S, S = S, S > S. S: P { + P, - P }. P: Q { * Q, / Q, % Q }");
        due("* within +", worth("2+3*4", 0, 0, 0), 14);
        due("% within -", worth("20-13%5", 0, 0, 0), 17);
        due("+ within <", worth("5<2+4", 0, 0, 0), 1);
        due("- within =", worth("3=5-2", 0, 0, 0), 1);
        due("> within &", worth("3>2&2>1", 0, 0, 0), 1);
        due("& within |", worth("1|1&0", 0, 0, 0), 1);
        due("| behind &", worth("0&0|1", 0, 0, 0), 1);
        due("( ) within all", worth("(0|1)&0", 0, 0, 0), 0);
        due("( ) within *", worth("(2+3)*4", 0, 0, 0), 20);
        due("! of Q alone", worth("!0+5", 0, 0, 0), 6);
        due("! of Q alone, ahead of *", worth("!0*5", 0, 0, 0), 5);
        due("! of ( )", worth("!(0+5)", 0, 0, 0), 0);
        due("* of !", worth("7*!0", 0, 0, 0), 7);
    }

    private static void uses() {
        sentence("0 GUESS, NAMES c what isn't given, l LONG, m m", "with its NAMES in order as a, b, c");
        PlayedBack x = new PlayedBack();
        text(x, 0, "c*9+l*3+m");
        due("c, l, m", x.law(0, 4, 5, 6), 57);
        sentence("held within 0 to 99");
        text(x, 0, "c");
        int[][] guesses = {{0, 0}, {-1, 0}, {99, 99}, {98, 98}, {100, 99}, {1, 1}, {LEAST_INT, 0}, {GREATEST_INT, 99}};
        for (int[] pair : guesses) {
            due("c of " + pair[0], x.law(0, pair[0], 50, 50), pair[1]);
        }
        sentence("1 CLAP (of an EVENING), NAMES g GUESSED, h HANDS, r RISES");
        text(x, 1, "g*100+h*10+r");
        due("g, h, r", x.law(1, 4, 5, 6), 456);
        sentence("held within -999 to 999");
        text(x, 1, "r");
        int[][] claps = {{0, 0}, {998, 998}, {999, 999}, {1000, 999}, {-998, -998}, {-999, -999}, {-1000, -999}, {LEAST_INT, -999}, {GREATEST_INT, 999}};
        for (int[] pair : claps) {
            due("r of " + pair[0], x.law(1, 50, 50, pair[0]), pair[1]);
        }
        sentence("without a TEXT c*10");
        PlayedBack y = new PlayedBack();
        for (int c = 0; c <= 9; c++) {
            due("c of " + c, y.law(0, c, 30, 9), c * 10);
        }
        sentence("held within 0 to 99; without a TEXT c*10");
        due("c of 10", y.law(0, 10, 0, 0), 99);
        due("c of -1", y.law(0, -1, 0, 0), 0);
        sentence("without a TEXT 100-g-h*5");
        due("nothing", y.law(1, 0, 0, 7), 100);
        due("g and h", y.law(1, 13, 4, 7), 67);
        due("to below 0", y.law(1, 90, 6, 7), -20);
        sentence("held within -999 to 999; without a TEXT 100-g-h*5");
        due("-999", y.law(1, 1099, 0, 0), -999);
        due("-1000", y.law(1, 1100, 0, 0), -999);
        due("999", y.law(1, -899, 0, 0), 999);
        due("1000", y.law(1, -900, 0, 0), 999);
        sentence("THE TAPE, which is empty then, is the TEXT of a USE (0, 1), in place of one ahead: 1");
        PlayedBack z = new PlayedBack();
        due("0", text(z, 0, "11"), 1);
        due("empty", z.count(8), 0);
        due("1", text(z, 1, "22"), 1);
        due("0 gives", z.law(0, 1, 1, 1), 11);
        due("1 gives", z.law(1, 1, 1, 1), 22);
        due("0 again", text(z, 0, "33"), 1);
        due("0 gives then", z.law(0, 1, 1, 1), 33);
        due("1 gives still", z.law(1, 1, 1, 1), 22);
    }

    // ---- 3: what would be

    private static void leastGuessed() {
        sentence("LEAST GUESSED: of all orders that with the least GUESSED", "of several the first as a row");
        for (int n = 0; n <= MOST_SCENES; n++) {
            PlayedBack x = starts(n);
            due("how much of " + n, x.least(-1), 0);
            dueRow("all are as good", leastRow(x), "0123456".substring(0, n));
            due("none behind the last", x.least(n), n == 7 ? BEYOND : NONE);
            PlayedBack y = chain(n);
            due("how much of a chain", y.least(-1), 0);
            dueRow("a chain", leastRow(y), "0123456".substring(0, n));
        }
        PlayedBack y = chain(7);
        text(y, 0, "9-c*9");
        due("all but one lack", y.least(-1), 9);
        dueRow("a chain from its end, with a TEXT that likes what lacks", leastRow(y), "6543210");
        dueOrder("THE ORDER stays", y, "6543210");
        y.turn();
        dueOrder("THE ORDER stays, turned", y, "0123456");
        PlayedBack z = starts(6);
        z.scene(69, 1, 1, 0);
        due("nothing need be guessed", z.least(-1), 0);
        dueRow("the CAUSE ahead", leastRow(z), "0123456");
        text(z, 0, "20-c*15");
        due("what lacks is less, with SHOCK", z.least(-1), 6 * 20 + 5 + 14);
        dueRow("6 ahead of 0", leastRow(z), "1234560");
        z.become(6, 60);
        due("with less SHOCK", z.least(-1), 6 * 20 + 5 + 5);
        z.become(6, 20);
        text(z, 0, "1");
        due("each as much", z.least(-1), 7);
        dueRow("the first as a row", leastRow(z), "0123456");
    }

    private static void fewestHands() {
        sentence("FEWEST HANDS: that with the fewest HANDS; of several the first as a row");
        for (int n = 0; n <= MOST_SCENES; n++) {
            PlayedBack x = starts(n);
            due("how many of " + n, x.fewest(-1), 0);
            dueRow("all are as good", fewestRow(x), "0123456".substring(0, n));
            due("none behind the last", x.fewest(n), n == 7 ? BEYOND : NONE);
        }
        PlayedBack y = starts(7);
        for (int i = 0; i < 6; i++) {
            y.prop(i, 0, i, (i + 1) % 6);
        }
        due("a ring", y.fewest(-1), 0);
        dueRow("a ring with BACK: 0, then 5 down, 6 where it is least", fewestRow(y), "0543216");
        y.back(0);
        dueRow("a ring without BACK", fewestRow(y), "0123456");
        y.prop(6, 3, 5, 0);
        due("another PROP alone", y.fewest(-1), 0);
        dueRow("another PROP alone, with BACK 0", fewestRow(y), "0123456");
        y.prop(6, 0, 2, 2);
        due("one more, between", y.fewest(-1), 0);
        dueRow("between 1 and 2", fewestRow(y), "0162345");
        y.prop(6, 0, 2, 5);
        due("one more, across the ring", y.fewest(-1), 0);
        dueRow("twice by 2", fewestRow(y), "2345016");
        y.prop(6, 4, 0, 0);
        y.prop(3, 0, 4, 3);
        due("one the other way round", y.fewest(-1), 1);
        dueRow("it is first, as what follows is moved", fewestRow(y), "3450126");
        dueOrder("THE ORDER stays", y, "6543210");
        y.prop(3, 0, 3, 4);
        y.prop(6, 1, 2, 5);
        y.prop(5, 1, 0, 1);
        due("two PROPS, one of them moved in any order", y.fewest(-1), 1);
        dueRow("so it is", fewestRow(y), "0123456");
        y.prop(5, 1, 5, 1);
        due("two PROPS, none moved", y.fewest(-1), 0);
        dueRow("6 ahead of 5", fewestRow(y), "0123465");
    }

    private static void ordersUpTo() {
        sentence("ORDERS by g (0 to 9999): how many orders have GUESSED of g at most");
        int[] ways = {1, 1, 2, 6, 24, 120, 720, 5040};
        for (int n = 0; n <= MOST_SCENES; n++) {
            due("nothing to guess, of " + n, starts(n).orders(0), ways[n]);
            due("9999 of " + n, chain(n).orders(9999), ways[n]);
            due("0 of a chain of " + n, chain(n).orders(0), 1);
            PlayedBack x = starts(n);
            text(x, 0, "99");
            due("just as much, of " + n, x.orders(99 * n), ways[n]);
            due("one more than that, of " + n, x.orders(99 * n + 1), ways[n]);
            if (n > 0) {
                due("one less than that, of " + n, x.orders(99 * n - 1), 0);
                due("0, of " + n, x.orders(0), 0);
            }
        }
        PlayedBack y = chain(4);
        int[] eulerian = {1, 12, 23, 24};
        for (int falls = 0; falls <= 3; falls++) {
            due("a chain of 4 with " + falls + " that lack", y.orders(falls * 10), eulerian[falls]);
            due("one less", y.orders(Math.max(0, falls * 10 - 1)), falls == 0 ? 1 : eulerian[falls - 1]);
            due("nine more", y.orders(falls * 10 + 9), eulerian[falls]);
        }
    }

    private static void mended() {
        sentence("the fewest SCENES without CAUSES whose WILL is changed, so that COMES of it is v");
        for (int i = 0; i < MOST_SCENES; i++) {
            PlayedBack x = starts(7);
            due("it comes", x.mended(i, 1, 0), 0);
            due("it comes, the set", x.mended(i, 1, 1), 0);
            due("it won't", x.mended(i, 0, 0), 1);
            due("it won't, the set", x.mended(i, 0, 1), 1 << i);
            x.set(i, 6, 0);
            due("it doesn't", x.mended(i, 0, 1), 0);
            due("it will", x.mended(i, 1, 1), 1 << i);
        }
        for (int n = 1; n < MOST_SCENES; n++) {
            int all = (1 << n) - 1;
            PlayedBack x = starts(n);
            x.scene(10, all, 1, 0);
            due("a LETTER of " + n + ": all", x.mended(n, 0, 0), n);
            due("a LETTER of " + n + ": the set", x.mended(n, 0, 1), all);
            willBe(x, 0);
            sentence("of several the least set (as bits)");
            due("any", x.mended(n, 1, 0), 1);
            due("the least", x.mended(n, 1, 1), 1);
            sentence("the fewest SCENES without CAUSES whose WILL is changed, so that COMES of it is v");
            x.become(n, 0);
            due("a SCENE of " + n + ": all", x.mended(n, 1, 0), n);
            due("a SCENE of " + n + ": the set", x.mended(n, 1, 1), all);
            due("WILLS stay", x.comes(), 0);
        }
        PlayedBack deep = chain(7);
        due("through a chain", deep.mended(6, 0, 1), 1);
        deep.become(6, 69);
        due("by none", deep.mended(6, 0, 0), NONE);
        sentence("of several the least set (as bits)");
        PlayedBack y = starts(3);
        y.scene(41, 7, 1, 0);
        willBe(y, 0);
        due("two of three", y.mended(3, 1, 0), 2);
        due("0 and 1", y.mended(3, 1, 1), 3);
        y.set(1, 6, 1);
        due("one of two", y.mended(3, 1, 1), 1);
        due("fewer, though the set is greater", byTwoOrByOne().mended(4, 1, 1), 4);
        due("how many", byTwoOrByOne().mended(4, 1, 0), 1);
    }

    /** SCENE 4 comes if 2 does, or if 0 and 1 both do; none does. */
    private static PlayedBack byTwoOrByOne() {
        PlayedBack x = starts(3);
        x.scene(0, 3, 1, 0);
        x.scene(10, 12, 1, 0);
        willBe(x, 0);
        return x;
    }

    private static void thought() {
        sentence("THOUGHT at a place (0 to as many as there are SCENES): of all WILLS of the SCENES without CAUSES");
        for (int n = 0; n <= MOST_SCENES; n++) {
            PlayedBack x = starts(n);
            for (int place = 0; place <= n; place++) {
                due("of " + n + " at " + place, x.thought(place), 1 << n - place);
            }
            due("behind the last place", x.thought(n + 1), BEYOND);
            willBe(x, 0x55);
            for (int place = 0; place <= n; place++) {
                due("of " + n + " at " + place + ", by other WILLS", x.thought(place), 1 << n - place);
            }
            sentence("SURE: the first place with just one");
            due("starts", x.sure(), n);
            due("a chain", chain(n).sure(), n == 0 ? 0 : 1);
            sentence("THOUGHT at a place (0 to as many as there are SCENES): of all WILLS of the SCENES without CAUSES");
        }
        PlayedBack letters = starts(6);
        letters.scene(10, 63, 1, 0);
        due("a LETTER of six, ahead", letters.thought(0), 64);
        due("a LETTER of six", letters.thought(1), 63);
        due("a LETTER of six and one", letters.thought(2), 32);
        willBe(letters, 0);
        due("no LETTER of six", letters.thought(1), 1);
        sentence("SURE: the first place with just one");
        due("no LETTER of six", letters.sure(), 1);
        due("none", new PlayedBack().sure(), 0);
        letters.become(6, 20);
        due("a JOKE of six that doesn't come", letters.sure(), 6);
        letters.turn();
        due("six, and then the JOKE", letters.sure(), 6);
        sentence("COMES of each SCENE that is given ahead of that place is as it is");
        PlayedBack x = played(new int[] {0, 0, 0}, new int[] {69, 1, 0}, new int[] {30, 1, 0});
        due("ahead of all", x.thought(0), 2);
        due("a DEATH", x.thought(1), 1);
        x.place(1, 0);
        due("what comes always tells nothing", x.thought(1), 2);
        due("then the DEATH", x.thought(2), 1);
    }

    private static void explained() {
        sentence("by which KIND (0 to 6) of it, with its m, all else as it is, just those of the set COME: the least");
        for (int n = 1; n < MOST_SCENES; n++) {
            for (int t = 0; t <= n; t++) {
                for (int m = 0; m <= 9; m++) {
                    PlayedBack x = starts(n);
                    willBe(x, (1 << t) - 1);
                    x.scene(10 + m, (1 << n) - 1, 1, 0);
                    for (int v = 0; v <= 1; v++) {
                        int least = NONE;
                        for (int kind = 6; kind >= 0; kind--) {
                            least = comes(kind, m, n, t) == (v == 1) ? kind : least;
                        }
                        due("m " + m + ", n " + n + ", t " + t, x.explained(n, (1 << t) - 1 | v << n), least);
                    }
                    due("it stays a LETTER", x.ofScene(n, 0), 1);
                }
            }
        }
        PlayedBack x = starts(7);
        due("all come", x.explained(6, ALL), 0);
        due("128", x.explained(6, ALL + 1), BEYOND);
        sentence("EXPLAINED. BEYOND. NONE: by none");
        due("none come", x.explained(6, 0), NONE);
        due("all but one", x.explained(6, 63), NONE);
        willBe(x, 0);
        due("none come, so it is", x.explained(0, 0), 0);
        due("-1", x.explained(0, -1), BEYOND);
        sentence("all else as it is");
        PlayedBack y = chain(7);
        due("what comes of it changes, too", y.explained(1, 1), 2 + 1);
        due("just those", y.explained(1, 3), NONE);
    }

    // ---- EVENINGS

    private static void takings() {
        sentence("TAKINGS (0 at first; held within -99999 to 99999)");
        PlayedBack x = new PlayedBack();
        due("at first", x.count(5), 0);
        text(x, 1, "999");
        due("one", x.evenings(1), 999);
        due("a hundred", x.evenings(99), 99900);
        due("up to 99999", clapped(x, "99"), 99999);
        due("one more", clapped(x, "1"), 99999);
        due("less again", clapped(x, "0-1"), 99998);
        due("as told", x.count(5), 99998);
        due("more by two", clapped(x, "2"), 99999);
        text(x, 1, "0-999");
        due("down", x.evenings(200), -99801);
        due("to -99999", clapped(x, "0-198"), -99999);
        due("one less", clapped(x, "0-1"), -99999);
        due("more again", clapped(x, "1"), -99998);
        due("two less", clapped(x, "0-2"), -99999);
        heldEachEvening();
        sentence("n (1 to 200) EVENINGS: TAKINGS then");
        PlayedBack y = new PlayedBack();
        due("1", y.evenings(1), 100);
        due("200", y.evenings(200), 20100);
        due("so many", y.count(6), 201);
        sentence("EVENINGS (0 at first; 9999 at most)", "STATE: EVENINGS would be above 9999");
        PlayedBack z = new PlayedBack();
        due("at first", z.count(6), 0);
        text(z, 1, "1");
        for (int i = 1; i <= 49; i++) {
            due("200 more", z.evenings(200), 200 * i);
        }
        due("200 too many", z.evenings(200), STATE);
        due("200 too many by draws", z.loose(200), STATE);
        due("none of them", z.count(6), 9800);
        due("198", z.evenings(198), 9998);
        due("two too many", z.evenings(2), STATE);
        due("one by draws", z.loose(1), 9999);
        due("9999", z.count(6), 9999);
        due("one too many", z.evenings(1), STATE);
        due("one too many by draws", z.loose(1), STATE);
        due("TAKINGS stay", z.count(5), 9999);
        sentence("AN EVENING: TAKINGS are more by CLAP");
        PlayedBack clap = played(new int[] {30, 0, 1}, new int[] {20, 1, 1});
        clap.prop(0, 0, 1, 2);
        clap.prop(1, 0, 1, 2);
        due("100 less GUESSED and HANDS", clap.evenings(1), 100 - 10 - 5);
        text(clap, 1, "r*100");
        clap.turn();
        due("RISES", clap.evenings(2), 85 + 200);
    }

    /** What is beyond the bounds is lost at each of the EVENINGS, not at the last of them alone. */
    private static void heldEachEvening() {
        PlayedBack above = chain(2);
        text(above, 1, "999");
        due("up to the greatest", above.evenings(200), 99999);
        text(above, 1, "10-g*2");
        due("ten more than the greatest, ten less", above.loose(2), 99989);
        PlayedBack below = chain(2);
        text(below, 1, "0-999");
        due("down to the least", below.evenings(200), -99999);
        text(below, 1, "g*2-10");
        due("ten less than the least, ten more", below.loose(2), -99989);
    }

    private static int clapped(PlayedBack x, String text) {
        text(x, 1, text);
        return x.evenings(1);
    }

    private static void draws() {
        sentence("BY DRAWS: z is told (1 at first); each makes it z * 1103515245 + 12345 (an int), and gives z >>> 8");
        due("at first", new PlayedBack().count(11), 1);
        for (int n = 2; n <= MOST_SCENES; n++) {
            for (int seed : new int[] {1, 0, -1, 7, LEAST_INT, GREATEST_INT, BEYOND}) {
                PlayedBack x = starts(n);
                x.seed(seed);
                int z = seed;
                StringBuilder order = new StringBuilder("6543210".substring(7 - n));
                for (int i = 0; i < 9; i++) {
                    x.loose(1);
                    z = z * 1103515245 + 12345;
                    int at = (z >>> 8) % (n - 1);
                    order.insert(at, order.charAt(at + 1)).deleteCharAt(at + 2);
                    due("z of " + n, x.count(11), z);
                    dueOrder("of " + n + " by " + seed, x, order.toString());
                }
            }
        }
        sentence("with less than two SCENES no draw");
        for (int n = 0; n <= 2; n++) {
            PlayedBack x = starts(n);
            due("TAKINGS of " + n, x.loose(3), 300);
            due("EVENINGS of " + n, x.count(6), 3);
            due("drawn of " + n, x.count(11) == 1 ? 0 : 1, n < 2 ? 0 : 1);
        }
        sentence("Ahead of each EVENING by draws a draw's rest by how many SCENES there are, less 1: that place and the next one");
        PlayedBack pair = chain(2);
        due("changed ahead of it", pair.loose(1), 100);
        dueOrder("changed", pair, "01");
        due("changed back ahead of the next", pair.loose(1), 190);
        due("three at once", pair.loose(3), 190 + 100 + 90 + 100);
        sentence("n (1 to 200) EVENINGS by draws: likewise");
        PlayedBack one = chain(3);
        PlayedBack all = chain(3);
        for (int i = 0; i < 200; i++) {
            one.loose(1);
        }
        due("200 at once are 200 by one", all.loose(200), one.count(5));
        due("z of both", all.count(11), one.count(11));
        due("EVENINGS of both", all.count(6), 200);
        sentence("z becomes v: what it was (any number)");
        int was = one.count(11);
        for (int z : new int[] {LEAST_INT, GREATEST_INT, 0, -1, BEYOND, NONE}) {
            due("to " + z, one.seed(z), was);
            due("z then", one.count(11), z);
            was = z;
        }
    }

    // ---- VOICES

    private static void voices() {
        sentence("VOICES of a SCENE, with a number x (ints that go round); n is its number, m as told");
        for (int n = 0; n < MOST_SCENES; n++) {
            for (int m = 0; m <= 9; m++) {
                PlayedBack x = starts(7);
                x.become(n, m);
                for (int v : new int[] {LEAST_INT, -1, 0, 1, GREATEST_INT}) {
                    due("opens", x.voice(n, 0, v), v + n);
                    due("plays", x.voice(n, 1, v), (v + n) * 2);
                    due("closes", x.voice(n, 2, v), v - m);
                    due("tells", x.voice(n, 3, v), (v + n) * 2 ^ v - m);
                }
            }
        }
        for (int km = 10; km <= 69; km++) {
            for (int v : new int[] {LEAST_INT, LEAST_INT + 1, -1, 0, 1, GREATEST_INT - 1, GREATEST_INT}) {
                dueVoices(km, 3, v);
            }
        }
    }

    private static int opens(int kind, int n, int x) {
        return kind == 2 || kind == 5 ? (x + n) * 3 : x + n;
    }

    private static int closes(int kind, int n, int m, int x) {
        int[] byKind = {x - m, x - m, x - m, -(x - m), x - m, x - m, -(x - m) ^ n};
        return byKind[kind];
    }

    private static int plays(int kind, int n, int m, int x) {
        int[] byKind = {
            (x + n) * 2, (x + n) * 2 - (1 - m), (x + n) * 3 * 2, (x + n) * 2,
            (x + 1 + n) * 2 - (1 - m), (x + n) * 3 * 2, (x + n) * 2,
        };
        return byKind[kind];
    }

    private static void dueVoices(int km, int n, int v) {
        int kind = km / 10;
        int m = km % 10;
        PlayedBack x = starts(7);
        x.become(n, km);
        sentence("JOKE: 30 opens: super.opens(x) * 3");
        due("opens of " + km, x.voice(n, 0, v), opens(kind, n, v));
        sentence("LETTER: 20 plays: super.plays(x) - closes(1)", "SECRET: 50 plays: super.plays(x + 1)");
        due("plays of " + km, x.voice(n, 1, v), plays(kind, n, m, v));
        sentence("DEATH: 40 closes: -super.closes(x)", "MURDER: 70 closes: super.closes(x) ^ n");
        due("closes of " + km, x.voice(n, 2, v), closes(kind, n, m, v));
        sentence("FARCE: 60 tells: super.tells(x) - opens(2)", "71 tells: plays(x) - super.tells(x)");
        int both = plays(kind, n, m, v) ^ closes(kind, n, m, v);
        int[] tells = {both, both, both, both, both, both - opens(kind, n, 2), plays(kind, n, m, v) - both};
        due("tells of " + km, x.voice(n, 3, v), tells[kind]);
    }

    private static void traces() {
        sentence("THE TRACE: the numbers of BODIES of the latest voice(), as they began (what stands left is worked out first)");
        String[][] want = {
            {"10", "11 10", "12", "13 11 10 12"},
            {"10", "20 11 10 12", "12", "13 20 11 10 12 12"},
            {"30 10", "11 30 10", "12", "13 11 30 10 12"},
            {"10", "11 10", "40 12", "13 11 10 40 12"},
            {"10", "50 20 11 10 12", "12", "13 50 20 11 10 12 12"},
            {"30 10", "11 30 10", "12", "60 13 11 30 10 12 30 10"},
            {"10", "11 10", "70 40 12", "71 11 10 13 11 10 70 40 12"},
        };
        for (int kind = 0; kind <= 6; kind++) {
            for (int act = 0; act <= 3; act++) {
                PlayedBack x = starts(1);
                x.become(0, kind * 10);
                x.voice(0, 3, 1);
                x.voice(0, act, 0);
                StringBuilder got = new StringBuilder();
                for (int i = 0; i < x.count(10); i++) {
                    got.append(i == 0 ? "" : " ").append(x.trace(i));
                }
                dueRow("act " + act + " of KIND " + kind, got.toString(), want[kind][act]);
                sentence("THE TRACE's i-th. NONE: there is none such");
                due("behind the last", x.trace(x.count(10)), NONE);
                due("-1", x.trace(-1), NONE);
                due("39", x.trace(39), NONE);
                due("40", x.trace(40), NONE);
                sentence("THE TRACE: the numbers of BODIES of the latest voice(), as they began (what stands left is worked out first)");
            }
        }
        due("none at first", new PlayedBack().trace(0), NONE);
        due("none at first, by count", new PlayedBack().count(10), 0);
    }

    // ---- 4: SHEETS

    private static void sheets() {
        sentence("SHEETS 0 .. 3 are rows of 8, 16, 32 bits, at most 40 numbers, or missing (as at first)");
        PlayedBack x = new PlayedBack();
        for (int sheet = 0; sheet <= 3; sheet++) {
            due("missing at first", x.judge(sheet), NONE);
            for (int bits = 8; bits <= 32; bits *= 2) {
                due("none", x.sheet(sheet, bits, 0), 1);
                due("no number 0", x.put(sheet, 0, 1), BEYOND);
                due("one", x.sheet(sheet, bits, 1), 1);
                due("number 0", x.put(sheet, 0, 1), 1);
                due("no number 1", x.put(sheet, 1, 1), BEYOND);
                due("40", x.sheet(sheet, bits, 40), 1);
                due("number 39", x.put(sheet, 39, 1), 1);
                due("no number 40", x.put(sheet, 40, 1), BEYOND);
                due("41", x.sheet(sheet, bits, 41), BEYOND);
                due("number 39 still", x.put(sheet, 39, 1), 1);
                sentence("0: it is missing, n doesn't matter");
                due("missing", x.sheet(sheet, 0, 41), 1);
                due("so it is", x.put(sheet, 0, 1), NONE);
                due("missing again", x.sheet(sheet, 0, -1), 1);
                sentence("SHEETS 0 .. 3 are rows of 8, 16, 32 bits, at most 40 numbers, or missing (as at first)");
            }
        }
        sentence("A SHEET has n numbers, all 0");
        PlayedBack y = starts(7);
        willBe(y, 0);
        lay(y, 0, 8, 9, 9, 9, 9, 9, 9, 9);
        due("not 0 yet", y.judge(0), 0);
        y.sheet(0, 8, 7);
        due("all 0 again", y.judge(0), -1);
        lay(y, 0, 32, 0, 0, 0, 0, 0, 0, 9);
        y.sheet(0, 32, 3);
        due("fewer", y.judge(0), 3);
        y.sheet(0, 32, 7);
        due("all 0, those behind fewer, too", y.judge(0), -1);
        lay(y, 0, 16, 9, 9, 9, 9, 9, 9, 9);
        y.sheet(0, 0, 7);
        y.sheet(0, 16, 7);
        due("all 0, those of a missing one, too", y.judge(0), -1);
        widths();
    }

    private static void widths() {
        sentence("Number i of a SHEET becomes v (its lowest bits)");
        int[][] ones = {{1, 257, 65537, -255, 0x7fffff01, 0x80000001}, {1, 65537, -65535, 0x7fff0001, 0x80000001}, {1}};
        int[][] others = {{0, 2, 256, 255, -1, 0x101 - 2}, {257, 0, 65536, -1, -255, 0x8001}, {257, 65537, 0, -1, 0x80000001}};
        for (int width = 0; width < 3; width++) {
            int bits = 8 << width;
            for (int v : ones[width]) {
                PlayedBack x = starts(1);
                lay(x, 0, bits, v);
                due(v + " in " + bits + " bits is 1", x.judge(0), -1);
            }
            for (int v : others[width]) {
                PlayedBack x = starts(1);
                lay(x, 0, bits, v);
                due(v + " in " + bits + " bits isn't 1", x.judge(0), 0);
            }
        }
        PlayedBack x = starts(3);
        lay(x, 1, 8, 256 + 2, -256, 0x7fffff01);
        due("an order by lowest bits", x.order(1), 3);
        dueOrder("then", x, "201");
        lay(x, 1, 16, 65536 + 1, 0x7fff0002, -65536);
        due("an order by lowest bits of 16", x.order(1), 3);
        dueOrder("then", x, "120");
        lay(x, 1, 32, 65536 + 1, 2, 0);
        due("no order by all bits", x.order(1), STATE);
    }

    private static void moves() {
        sentence("n numbers of a SHEET, from number i on, come to another one (or the same), from its number j on, as they all were: n");
        for (int i = 0; i <= 7; i++) {
            for (int j = 0; j <= 7; j++) {
                for (int n = 0; n <= 8; n++) {
                    int[] want = {0, 1, 2, 3, 4, 5, 6};
                    boolean stand = i + n <= 7 && j + n <= 7;
                    if (stand) {
                        System.arraycopy(want.clone(), i, want, j, n);
                    }
                    PlayedBack x = starts(7);
                    lay(x, 2, 16, 0, 1, 2, 3, 4, 5, 6);
                    due(n + " from " + i + " to " + j, x.move(2, i, 2, j, n), stand ? n : BEYOND);
                    dueNumbers(x, 2, want);
                }
            }
        }
        PlayedBack x = starts(7);
        lay(x, 0, 8, 1, 2, 3);
        lay(x, 1, 8, 0, 0, 0, 0, 0, 0, 0);
        due("all of a lesser one", x.move(0, 0, 1, 4, 3), 3);
        dueNumbers(x, 1, new int[] {0, 0, 0, 0, 1, 2, 3});
        due("one more than the lesser has", x.move(1, 0, 0, 0, 4), BEYOND);
        due("as many as the lesser has", x.move(1, 3, 0, 0, 3), 3);
        x.sheet(0, 8, 40);
        x.sheet(1, 8, 40);
        due("40", x.move(0, 0, 1, 0, 40), 40);
        due("41", x.move(0, 0, 1, 0, 41), BEYOND);
        due("the last", x.move(0, 39, 1, 39, 1), 1);
        due("none behind the last", x.move(0, 40, 1, 40, 0), 0);
        due("one behind the last", x.move(0, 40, 1, 0, 1), BEYOND);
        x.sheet(0, 32, 0);
        due("none of none", x.move(0, 0, 0, 0, 0), 0);
    }

    /** By one number at a time that is asked of a SHEET whose other numbers are known. */
    private static void dueNumbers(PlayedBack x, int sheet, int[] want) {
        boolean[] seen = new boolean[want.length];
        boolean each = true;
        for (int v : want) {
            each &= !seen[v];
            seen[v] = true;
        }
        due("an order", x.order(sheet), each ? want.length : STATE);
        if (each) {
            for (int i = 0; i < want.length; i++) {
                due("number " + i, x.given(i), want[i]);
            }
            return;
        }
        // What lacks takes the place of what stands twice: so all numbers can be seen as an order.
        boolean[] taken = new boolean[want.length];
        int[] mended = want.clone();
        int lacking = 0;
        for (int i = 0; i < want.length; i++) {
            if (taken[want[i]]) {
                while (seen[lacking]) {
                    lacking++;
                }
                mended[i] = lacking++;
                x.put(sheet, i, mended[i]);
            }
            taken[want[i]] = true;
        }
        due("an order once mended", x.order(sheet), want.length);
        for (int i = 0; i < want.length; i++) {
            due("number " + i + " of one mended", x.given(i), mended[i]);
        }
    }

    private static void ordersAndJudges() {
        sentence("Numbers of a SHEET become THE ORDER: how many SCENES", "STATE: they aren't all SCENES, each once");
        for (int n = 0; n <= MOST_SCENES; n++) {
            for (int bits = 8; bits <= 32; bits *= 2) {
                PlayedBack x = starts(n);
                x.sheet(0, bits, n);
                for (int i = 0; i < n; i++) {
                    x.put(0, i, i);
                }
                due("all of " + n, x.order(0), n);
                dueOrder("so", x, "0123456".substring(0, n));
                lay(x, 1, bits, new int[n + 1]);
                x.move(0, 0, 1, 0, n);
                due("one too many", x.order(1), STATE);
                if (n > 0) {
                    x.sheet(1, bits, n - 1);
                    x.move(0, 0, 1, 0, n - 1);
                    due("the last lacks", x.order(1), STATE);
                    x.put(0, n - 1, n);
                    due("one that there isn't", x.order(0), STATE);
                    x.put(0, n - 1, -1);
                    due("-1", x.order(0), STATE);
                }
                if (n > 1) {
                    x.put(0, n - 1, n - 2);
                    due("one twice", x.order(0), STATE);
                }
                dueOrder("still so", x, "0123456".substring(0, n));
            }
        }
        sentence("Numbers of a SHEET are COMES of SCENES 0, 1, ..: the first that isn't so (one that lacks, or is too many, too); -1: all are");
        for (int n = 0; n <= MOST_SCENES; n++) {
            PlayedBack x = starts(n);
            willBe(x, 0x2d);
            for (int size = 0; size <= 9; size++) {
                x.sheet(0, 16, size);
                for (int i = 0; i < size; i++) {
                    x.put(0, i, 0x2d >> i & 1);
                }
                due(size + " of " + n, x.judge(0), size == n ? -1 : Math.min(size, n));
                for (int i = 0; i < size && i < n; i++) {
                    x.put(0, i, 1 ^ 0x2d >> i & 1);
                    due("number " + i + " isn't so", x.judge(0), i);
                    x.put(0, i, 0x2d >> i & 1);
                }
            }
        }
    }

    // ---- IMAGES, what waits, what is told

    private static void images() {
        sentence("is kept as an IMAGE, in place of one ahead: how often that was done");
        PlayedBack x = new PlayedBack();
        for (int i = 1; i <= 5; i++) {
            due("how often", x.image(), i);
        }
        sentence("All is as the IMAGE has it, which stays: EVENINGS. NONE: there is none");
        due("none at first", new PlayedBack().restore(), NONE);
        due("of nothing", x.restore(), 0);
        x.scene(30, 0, 9, 3);
        x.evenings(2);
        due("back to no SCENES", x.restore(), 0);
        due("none", x.count(0), 0);
        due("how often stays", x.image(), 6);
        due("a new one is number 0", x.scene(0, 0, 1, 0), 0);
        due("with no PROP", x.ofScene(0, 5), 4);
        sentence("in place of one ahead");
        x.evenings(7);
        x.image();
        x.evenings(1);
        due("the later one", x.restore(), 7);
        due("it stays", x.restore(), 7);
        due("TAKINGS", x.count(5), 700);
        sentence("(but SHEETS, THE TRACE, what told() tells, and how often this was done)");
        lay(x, 0, 8, 1);
        x.voice(0, 3, 1);
        x.given(9);
        x.restore();
        due("SHEETS", x.judge(0), -1);
        due("THE TRACE", x.count(10), 4);
        due("what told() tells", x.told(1), 1);
        due("how often", x.image(), 8);
        backToFewer();
        PlayedBack full = opened();
        full.image();
        full.restore();
        dueOpened(full);
        willBe(full, 0);
        full.turn();
        for (int i = 0; i < MOST_SCENES; i++) {
            full.become(i, 0);
            full.set(i, 3, 1);
            full.set(i, 4, 0);
            full.prop(i, 4, 0, 0);
        }
        full.back(1);
        full.text(0);
        full.check();
        text(full, 0, "1");
        text(full, 1, "1");
        full.loose(3);
        full.seed(4);
        full.restore();
        dueOpened(full);
    }

    private static void backToFewer() {
        sentence("All is as the IMAGE has it");
        PlayedBack x = chain(3);
        x.image();
        text(x, 0, "50");
        text(x, 1, "50");
        x.scene(60, 7, 9, 63);
        x.scene(69, 15, 9, 63);
        x.prop(3, 2, 1, 1);
        x.set(3, 6, 0);
        due("the least of five, by a TEXT", x.least(-1), 250);
        due("all orders of five", x.orders(300), 120);
        due("none without it", x.restore(), 0);
        due("no TEXT of GUESS", x.law(0, 3, 0, 0), 30);
        due("no TEXT of CLAP", x.law(1, 3, 0, 0), 97);
        due("three SCENES", x.count(0), 3);
        dueOrder("THE ORDER of three", x, "210");
        due("the least of three", x.least(-1), 0);
        dueRow("its row", leastRow(x), "012");
        due("orders of three", x.orders(0), 1);
        due("orders of three, all", x.orders(20), 6);
        due("SURE of three", x.sure(), 1);
        due("a new one", x.scene(0, 0, 1, 0), 3);
        due("WILL 1 at first", x.ofScene(3, 6), 1);
        due("no PROP", x.ofScene(3, 5), 4);
        due("no CAUSES", x.ofScene(3, 2), 0);
    }

    private static PlayedBack opened() {
        PlayedBack x = new PlayedBack();
        for (int i = 0; i < MOST_SCENES; i++) {
            x.scene(69 - i * 10, (1 << i) - 1, 30 - i, 63 - i);
            x.prop(i, i % 5, 5 - i % 6, i % 6);
        }
        text(x, 0, "c+l+m");
        text(x, 1, "g+h+r");
        give(x, "0246135");
        x.back(0);
        feed(x, times("1", 50));
        for (int i = 0; i < 20; i++) {
            x.tell(i);
        }
        x.evenings(3);
        x.seed(-9);
        return x;
    }

    private static void dueOpened(PlayedBack x) {
        PlayedBack like = opened();
        for (int what = 0; what <= 11; what++) {
            due("count(" + what + ")", x.count(what), like.count(what));
        }
        for (int i = 0; i < MOST_SCENES; i++) {
            for (int what = 0; what <= 10; what++) {
                due("ofScene(" + i + ", " + what + ")", x.ofScene(i, what), like.ofScene(i, what));
            }
        }
        dueOrder("THE ORDER", x, "0246135");
        due("GUESS", x.law(0, 1, 2, 3), 6);
        due("CLAP", x.law(1, 100, 20, 3), 123);
    }

    private static void waiting() {
        sentence("One more number waits: how many. FULL: 20 wait");
        PlayedBack x = new PlayedBack();
        for (int i = 1; i <= 20; i++) {
            due("one more", x.tell(0), i);
            due("so many", x.count(9), i);
        }
        due("a 21st", x.tell(0), FULL);
        due("20 still", x.count(9), 20);
        sentence("The numbers that wait (none do then) are GUESSES at places 0, 1, ..: 0;", "else 1 and the place (from 0) of the first that isn't so");
        due("beyond the last SCENE of none", x.check(), 1);
        due("none do then", x.count(9), 0);
        due("none wait", x.check(), 0);
        PlayedBack y = played(new int[] {0, 0, 0}, new int[] {21, 1, 0}, new int[] {22, 3, 0}, new int[] {23, 7, 0},
            new int[] {24, 15, 0}, new int[] {25, 31, 0}, new int[] {69, 63, 0});
        for (int right = 0; right <= 7; right++) {
            for (int i = 0; i < right; i++) {
                y.tell(y.guess(i));
            }
            due(right + " right ones", y.check(), 0);
            for (int i = 0; i < right; i++) {
                y.tell(y.guess(i));
            }
            y.tell(-1);
            due(right + " right ones and a wrong one", y.check(), right + 1);
            due("none do then", y.count(9), 0);
        }
        for (int i = 0; i < 20; i++) {
            y.tell(i < 7 ? y.guess(i) : 0);
        }
        sentence("(beyond the last SCENE, too)");
        due("twenty", y.check(), 8);
    }

    private static void counts() {
        sentence("0 SCENES", "7 LONG of all together");
        PlayedBack x = new PlayedBack();
        for (int n = 0; n <= MOST_SCENES; n++) {
            due("SCENES", x.count(0), n);
            due("LONG", x.count(7), 30 * n);
            x.scene(0, 0, 30, 0);
        }
        sentence("8 bytes of THE TAPE, 9 numbers that wait");
        for (int i = 1; i <= 50; i++) {
            x.feed('1', 1);
            due("bytes", x.count(8), i);
        }
        x.feed('1', 1);
        due("bytes", x.count(8), 50);
        sentence("11 z (any number)");
        x.seed(BEYOND);
        due("like an ERROR", x.count(11), BEYOND);
        sentence("11 z (any number). BEYOND");
        due("12", x.count(12), BEYOND);
        due("-1", x.count(-1), BEYOND);
        sentence("How many acts have answered an ERROR LOW - k (k 1 .. 5); BEYOND: another k (counted, too)");
        due("so far", x.told(1), 2);
        due("0", x.told(0), BEYOND);
        due("6", x.told(6), BEYOND);
        due("then", x.told(1), 4);
        due("FULL", x.told(4), 2);
        due("others", x.told(2) + x.told(3) + x.told(5), 0);
    }

    private static void manyCalls() {
        sentence("An object is used for at most 512 calls after it has been made");
        PlayedBack x = chain(7);
        for (int i = 8; i < 512; i++) {
            due("call " + i, i % 2 == 0 ? x.orders(0) : x.given(7), i % 2 == 0 ? 1 : BEYOND);
        }
        due("the 512th", x.told(1), 252);
        PlayedBack y = new PlayedBack();
        for (int i = 1; i < 512; i++) {
            y.image();
        }
        due("the 512th, an IMAGE", y.image(), 512);
        PlayedBack z = new PlayedBack();
        for (int i = 1; i < 512; i++) {
            z.turn();
        }
        due("the first SCENE by the 512th", z.scene(0, 0, 1, 0), 0);
    }
}
