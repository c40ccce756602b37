import java.io.IOException;
import java.nio.charset.StandardCharsets;
import java.nio.file.Files;
import java.nio.file.Path;

/**
 * The document from its first line to the end of its Terms, sentence by sentence, each with plays worked out by hand
 * that hold it. PromiseTests goes on from there.
 */
public final class TermsTests {
    private static final int LOW = -1000000000;
    private static final int BEYOND = LOW - 1;
    private static final int NONE = LOW - 2;
    private static final int STATE = LOW - 3;
    private static final int FULL = LOW - 4;
    private static final int KIND = LOW - 5;

    private static final Page page = new Page("# PlayedBack");

    public static void main(String[] args) throws IOException {
        whatItIs();
        face();
        errors();
        scenes();
        coming();
        shocks();
        deaths();
        theOrder();
        guesses();
        hands();
        rises();
        takings();
        grammar();
        values();
        faults();
        uses();
        choices();
        worlds();
        evenings();
        voices();
        bodies();
        trace();
        sheets();
        interfaceSays();
        page.end("## Promise 1: A new object");
    }

    private static void says(String words) {
        page.says(words);
    }

    private static void due(String what, long got, long want) {
        page.due(what, got, want);
    }

    private static void due(String what, String got, String want) {
        page.due(what, got, want);
    }

    // ---- what the tests set and look at

    /** Rows of km, CAUSES, LONG, CAST. */
    private static PlayedBack played(int[]... rows) {
        PlayedBack x = new PlayedBack();
        for (int[] row : rows) {
            x.scene(row[0], row[1], row[2], row[3]);
        }
        return x;
    }

    /** SCENES without CAUSES, of one minute, with nobody on stage. */
    private static PlayedBack starts(int n) {
        PlayedBack x = new PlayedBack();
        for (int i = 0; i < n; i++) {
            x.scene(0, 0, 1, 0);
        }
        return x;
    }

    private static void will(PlayedBack x, int... wills) {
        for (int i = 0; i < wills.length; i++) {
            x.set(i, 6, wills[i]);
        }
    }

    private static void give(PlayedBack x, String order) {
        for (int place = 0; place < order.length(); place++) {
            x.place(order.charAt(place) - '0', place);
        }
    }

    private static String orderOf(PlayedBack x) {
        StringBuilder s = new StringBuilder();
        for (int place = 0; place < x.count(0); place++) {
            s.append(x.given(place));
        }
        return s.toString();
    }

    private static String leastOf(PlayedBack x) {
        StringBuilder s = new StringBuilder().append(x.least(-1)).append(":");
        for (int place = 0; place < x.count(0); place++) {
            s.append(x.least(place));
        }
        return s.toString();
    }

    private static String fewestOf(PlayedBack x) {
        StringBuilder s = new StringBuilder().append(x.fewest(-1)).append(":");
        for (int place = 0; place < x.count(0); place++) {
            s.append(x.fewest(place));
        }
        return s.toString();
    }

    private static String traceOf(PlayedBack x) {
        StringBuilder s = new StringBuilder();
        for (int i = 0; i < x.count(10); i++) {
            s.append(i == 0 ? "" : " ").append(x.trace(i));
        }
        return s.toString();
    }

    private static int text(PlayedBack x, int use, String text) {
        for (byte b : text.getBytes(StandardCharsets.ISO_8859_1)) {
            x.feed(b, 1);
        }
        return x.text(use);
    }

    /** What a TEXT of CLAP gives with g, h, r; what text() answers, if it is none. */
    private static int worth(String text, int g, int h, int r) {
        PlayedBack x = new PlayedBack();
        int read = text(x, 1, text);
        return read == 1 ? x.law(1, g, h, r) : read;
    }

    private static int worth(String text) {
        return worth(text, 0, 0, 0);
    }

    /** 1: it is a TEXT of GUESS; else -10 less the FAULT. */
    private static int read(String text) {
        return text(new PlayedBack(), 0, text);
    }

    // ---- from the first line on

    private static void whatItIs() {
        page.titled("# PlayedBack");
        page.titled("## What it is");
        says("Played from the end: a theatre that gives its plays backwards;");
        PlayedBack x = starts(3);
        due("what happens last is given first", orderOf(x), "210");
        says("scenes of kinds that come of others, by all, by any, by odd ones;");
        x = played(new int[] {0, 0, 1, 0}, new int[] {0, 0, 1, 0},
                new int[] {0, 3, 1, 0}, new int[] {10, 3, 1, 0}, new int[] {20, 3, 1, 0});
        due("of both: by all, by any, not by odd ones", x.comes(), 0b01111);
        x.set(0, 6, 0);
        due("of one: by any, by odd ones", x.comes(), 0b11010);
        says("who is on stage and dies, props that are taken and left;");
        x = played(new int[] {30, 0, 1, 6});
        due("the ACTOR who dies", x.ofScene(0, 9), 1);
        x.prop(0, 2, 3, 4);
        due("its PROP", x.ofScene(0, 5), 2);
        theRestOfWhatItIs();
        says("An object is used for at most 512 calls after it has been made; what later calls answer is free.");
        x = new PlayedBack();
        for (int i = 1; i <= 512; i++) {
            due("call " + i, x.seed(i + 1), i);
        }
    }

    private static void theRestOfWhatItIs() {
        says("the order in which scenes are given, what must be guessed at each, when it is understood, hands that carry "
                + "props back, places where a dead one stands up;");
        PlayedBack x = played(new int[] {30, 0, 1, 1}, new int[] {0, 1, 1, 1});
        x.prop(0, 0, 2, 3);
        x.prop(1, 0, 2, 3);
        due("given first", x.given(0), 1);
        due("guessed there", x.guess(0), 10);
        due("understood", x.understood(1), 1);
        due("hands", x.count(2), 1);
        x.turn();
        due("the dead one stands up", x.count(3), 1);
        says("the order with the least to guess, with the fewest hands, how many orders have as little;");
        due("the least", leastOf(x), "0:01");
        due("the fewest", fewestOf(x), "1:01");
        due("as little", x.orders(0), 1);
        says("what must be otherwise at first so that the end comes out so;");
        due("the first one", x.mended(1, 0, 1), 1);
        says("what plays an audience still thinks possible at each place, from when on it is sure;");
        due("at first", x.thought(0), 2);
        due("sure", x.sure(), 1);
        says("by which kind a scene explains an evening; evenings by draws; laws in texts, rows, images.");
        due("by a DEATH", x.explained(1, 1), 2 + 1);
        due("an evening by a draw", x.loose(1), 100 - 10 - 5);
        due("a law", text(x, 1, "g"), 1);
        due("a row", x.sheet(0, 8, 2), 1);
        due("an image", x.image(), 1);
    }

    /** Each line of the face stands in the program, too. */
    private static void face() throws IOException {
        page.titled("## The public face");
        page.passes("```java");
        String program = Files.readString(Path.of("src/main/java/PlayedBack.java"));
        String[] lines = {
            "public final class PlayedBack {",
            "public PlayedBack();",
            "public int scene(int km, int causes, int takes, int cast);",
            "public int prop(int scene, int prop, int from, int to);",
            "public int ofScene(int scene, int what);",
            "public int become(int scene, int km);",
            "public int as(int scene, int kind);",
            "public int set(int scene, int what, int v);",
            "public int comes();",
            "public int given(int place);",
            "public int place(int scene, int place);",
            "public int back(int v);",
            "public int guess(int place);",
            "public int understood(int scene);",
            "public int flaw();",
            "public int turn();",
            "public int feed(long word, int n);",
            "public int text(int use);",
            "public int law(int use, int a, int b, int c);",
            "public int least(int what);",
            "public int fewest(int what);",
            "public int orders(int g);",
            "public int mended(int scene, int v, int what);",
            "public int thought(int place);",
            "public int sure();",
            "public int explained(int scene, int set);",
            "public int evenings(int n);",
            "public int loose(int n);",
            "public int seed(int v);",
            "public int voice(int scene, int act, int x);",
            "public int trace(int i);",
            "public int sheet(int sheet, int bits, int n);",
            "public int put(int sheet, int i, int v);",
            "public int move(int sheet, int i, int other, int j, int n);",
            "public int order(int sheet);",
            "public int judge(int sheet);",
            "public int image();",
            "public int restore();",
            "public int tell(int v);",
            "public int check();",
            "public int count(int what);",
            "public int told(int k);",
        };
        for (String line : lines) {
            says(line);
            String head = line.replace(";", " {");
            due(head, program.contains(head) ? 1 : 0, 1);
        }
        page.passes("} ```");
    }

    private static void errors() {
        page.titled("## Terms");
        says("ERRORS are answers below -1000000000: LOW is -1000000000; LOW - 1 BEYOND, LOW - 2 NONE, LOW - 3 STATE, "
                + "LOW - 4 FULL, LOW - 5 KIND.");
        PlayedBack x = starts(7);
        due("BEYOND", x.given(-1), -1000000001);
        due("NONE", x.restore(), -1000000002);
        due("STATE", x.sheet(0, 16, -1), -1000000003);
        due("FULL", x.scene(0, 0, 1, 0), -1000000004);
        due("KIND", x.as(0, 3), -1000000005);
        says("Each act tells its ERRORS in the order in which they are asked;");
        due("BEYOND, FULL", x.scene(70, 0, 1, 0), BEYOND);
        due("BEYOND, NONE, KIND, BEYOND", x.move(0, -1, 9, -1, -1), BEYOND);
        due("NONE, KIND, BEYOND", x.move(0, -1, 1, -1, -1), NONE);
        x.sheet(0, 8, 1);
        x.sheet(1, 16, 1);
        due("KIND, BEYOND", x.move(0, -1, 1, -1, -1), KIND);
        due("BEYOND alone", x.move(0, -1, 0, -1, -1), BEYOND);
        due("STATE, BEYOND of n", x.sheet(0, 8, -1), STATE);
        says("one that answers an ERROR changes nothing but what told() tells.");
        due("BEYOND so far", x.told(1), 4);
        due("a SCENE to a place that there isn't", x.place(0, 7), BEYOND);
        due("THE ORDER is as it was", orderOf(x), "6543210");
        due("one more", x.told(1), 5);
        says("Quotients are cut.");
        due("-7 by 2", worth("(0-7)/2"), -3);
        due("7 by -2", worth("7/(0-2)"), -3);
        due("-1 by 2", worth("(0-1)/2"), 0);
    }

    // ---- 1: SCENES

    private static void scenes() {
        says("1. SCENES 0, 1, .. (at most 7), in the order in which they happen,");
        PlayedBack x = new PlayedBack();
        for (int i = 0; i < 7; i++) {
            due("the next one", x.scene(0, 0, 1, 0), i);
        }
        due("an eighth", x.scene(0, 0, 1, 0), FULL);
        says("of KINDS: 0 SCENE; 1 LETTER, 2 JOKE, 3 DEATH under SCENE; 4 SECRET under LETTER; 5 FARCE under JOKE; "
                + "6 MURDER under DEATH;");
        String[] under = {"0", "01", "02", "03", "014", "025", "036"};
        for (int kind = 0; kind <= 6; kind++) {
            x.become(0, 10 * kind + 8);
            for (int upper = 0; upper <= 6; upper++) {
                due(kind + " as " + upper, x.as(0, upper), under[kind].indexOf('0' + upper) < 0 ? KIND : 8);
            }
        }
        due("there is no KIND 7", x.become(0, 70), BEYOND);
        says("each with a number m (0 to 9),");
        due("0", x.become(0, 20), 6);
        due("it", x.ofScene(0, 1), 0);
        due("9", x.become(0, 29), 2);
        due("it", x.ofScene(0, 1), 9);
        says("CAUSES (a set of SCENES of lesser numbers, as bits),");
        x = starts(2);
        due("of 0 and 1", x.scene(0, 0b11, 1, 0), 2);
        due("they", x.ofScene(2, 2), 0b11);
        due("of 2 alone", x.scene(0, 0b100, 1, 0), 3);
        due("of itself", x.scene(0, 0b10000, 1, 0), BEYOND);
        says("LONG (1 to 30 minutes),");
        due("0", x.set(0, 3, 0), BEYOND);
        due("30", x.set(0, 3, 30), 1);
        due("31", x.set(0, 3, 31), BEYOND);
        due("it", x.ofScene(0, 3), 30);
        says("a CAST (of ACTORS 0 to 5, as bits),");
        due("all six", x.set(0, 4, 0b111111), 0);
        due("a seventh", x.set(0, 4, 0b1000000), BEYOND);
        due("they", x.ofScene(0, 4), 63);
        spotsAndWill(x);
    }

    private static void spotsAndWill(PlayedBack x) {
        says("a PROP (0 to 3, or 4: none) that it TAKES at a SPOT (0 to 5) and LEAVES at one;");
        due("none at first", x.ofScene(1, 5), 4);
        due("PROP 3 from 5 to 0", x.prop(1, 3, 5, 0), 1);
        due("it", x.ofScene(1, 5), 3);
        due("PROP 5", x.prop(1, 5, 0, 0), BEYOND);
        due("from SPOT 6", x.prop(1, 0, 6, 0), BEYOND);
        due("to SPOT 6", x.prop(1, 0, 0, 6), BEYOND);
        due("still 3", x.ofScene(1, 5), 3);
        says("and WILL (0 or 1; 1 at first).");
        due("1 at first", x.ofScene(0, 6), 1);
        due("2", x.set(0, 6, 2), BEYOND);
        due("0", x.set(0, 6, 0), 1);
        due("it", x.ofScene(0, 6), 0);
    }

    /** COMES of one of km with n CAUSES of which the first t COME. */
    private static int coming(int km, int n, int t) {
        PlayedBack x = starts(n);
        for (int i = t; i < n; i++) {
            x.set(i, 6, 0);
        }
        x.scene(km, (1 << n) - 1, 1, 0);
        return x.ofScene(n, 7);
    }

    /** One sign for each t from 0 to n. */
    private static String coming(int km, int n) {
        StringBuilder s = new StringBuilder();
        for (int t = 0; t <= n; t++) {
            s.append(coming(km, n, t));
        }
        return s.toString();
    }

    private static void coming() {
        page.passes("```text");
        says("COMES (whether it happens): one without CAUSES: WILL.");
        PlayedBack x = played(new int[] {0, 0, 1, 0}, new int[] {35, 0, 1, 0}, new int[] {69, 0, 1, 0});
        due("all by WILL 1", x.comes(), 0b111);
        will(x, 1, 0, 0);
        due("whatever its KIND", x.comes(), 0b001);
        says("With n CAUSES, of which t COME:");
        x = played(new int[] {0, 0, 1, 0}, new int[] {0, 1, 1, 0}, new int[] {0, 2, 1, 0});
        x.set(1, 6, 0);
        due("WILL isn't asked then", x.comes(), 0b111);
        will(x, 0, 1, 1);
        due("each of the one before", x.comes(), 0);
        says("SCENE: if t is n.");
        due("of 3", coming(0, 3), "0001");
        due("of 1", coming(9, 1), "01");
        says("LETTER: if t is 1 at least.");
        due("of 3", coming(10, 3), "0111");
        says("JOKE: if t is odd.");
        due("of 5", coming(20, 5), "010101");
        says("DEATH: if t is below n.");
        due("of 3", coming(30, 3), "1110");
        due("of 1", coming(39, 1), "10");
        says("SECRET: if t is 1 and m modulo 3 at least.");
        due("m 0, of 4", coming(40, 4), "01111");
        due("m 1, of 4", coming(41, 4), "00111");
        due("m 2, of 4", coming(42, 4), "00011");
        due("m 9, as 0", coming(49, 4), "01111");
        due("m 8, as 2, of fewer than that", coming(48, 2), "000");
        says("FARCE: as JOKE, or, if m is odd, just if that doesn't.");
        due("m 4", coming(54, 3), "0101");
        due("m 7", coming(57, 3), "1010");
        says("MURDER: as DEATH, or, if m is above 4, always.");
        due("m 4", coming(64, 3), "1110");
        due("m 5", coming(65, 3), "1111");
    }

    private static void shocks() {
        says("SHOCK (what one guesses beside): SCENE: 0. JOKE: m. DEATH: 5. MURDER: as DEATH, and m. "
                + "(Others as the KIND above.)");
        int[] want = {0, 0, 7, 5, 0, 7, 12};
        for (int kind = 0; kind <= 6; kind++) {
            PlayedBack x = played(new int[] {10 * kind + 7, 0, 1, 0});
            due("KIND " + kind + " with 7", x.ofScene(0, 8), want[kind]);
        }
    }

    private static void deaths() {
        says("A DEATH (and what is under it) that COMES kills the least ACTOR of its CAST.");
        PlayedBack x = played(new int[] {30, 0, 1, 0b110100}, new int[] {60, 0, 1, 0b100000}, new int[] {0, 0, 1, 0b110100},
                new int[] {30, 0, 1, 0});
        due("a DEATH", x.ofScene(0, 9), 2);
        due("a MURDER", x.ofScene(1, 9), 5);
        due("a SCENE", x.ofScene(2, 9), -1);
        due("a DEATH of nobody on stage", x.ofScene(3, 9), -1);
        x.set(0, 6, 0);
        due("a DEATH that doesn't come", x.ofScene(0, 9), -1);
        says("BROKEN is a SCENE that has an ACTOR in its CAST who was killed by one of a lesser number.");
        x = played(new int[] {0, 0, 1, 0b11}, new int[] {30, 0, 1, 0b11}, new int[] {0, 0, 1, 0b10}, new int[] {0, 0, 1, 0b11});
        due("ahead of it", x.ofScene(0, 10), 0);
        due("the DEATH", x.ofScene(1, 10), 0);
        due("with another one", x.ofScene(2, 10), 0);
        due("with the dead one", x.ofScene(3, 10), 1);
        x.turn();
        due("THE ORDER doesn't matter", x.ofScene(3, 10), 1);
        due("THE ORDER doesn't matter", x.ofScene(0, 10), 0);
    }

    // ---- 1: THE ORDER

    private static void theOrder() {
        says("THE ORDER in which SCENES are given: each once; a new SCENE comes first (so that the latest is first).");
        PlayedBack x = starts(3);
        due("the latest first", orderOf(x), "210");
        give(x, "102");
        x.scene(0, 0, 1, 0);
        due("the new one first", orderOf(x), "3102");
        says("BACK: 1 if SCENES themselves are given from their ends too, else 0; 1 at first.");
        due("at first", x.count(4), 1);
        due("becomes 0", x.back(0), 1);
        due("then", x.count(4), 0);
    }

    private static void guesses() {
        says("GUESS at a SCENE in THE ORDER: by the TEXT, c being how many of its CAUSES aren't given ahead of it, "
                + "and SHOCK beside, if c is above 0.");
        PlayedBack x = played(new int[] {0, 0, 8, 0}, new int[] {26, 1, 5, 0}, new int[] {33, 3, 2, 0});
        text(x, 0, "c*20+l");
        due("the DEATH, both lack: 42 and 5", x.guess(0), 47);
        due("the JOKE, one lacks: 25 and 6", x.guess(1), 31);
        due("the SCENE, none lacks: 8", x.guess(2), 8);
        give(x, "120");
        due("the JOKE first", x.guess(0), 31);
        due("the DEATH, one lacks: 22 and 5", x.guess(1), 27);
        give(x, "012");
        due("the DEATH, none lacks: 2 and no SHOCK", x.guess(2), 2);
        says("GUESSED: all together.");
        due("8, 5, 2", x.count(1), 15);
        x.turn();
        due("47, 31, 8", x.count(1), 86);
        says("UNDERSTOOD: by which place of THE ORDER (from 0) a SCENE and all that it comes of (CAUSES of CAUSES, too) "
                + "were given.");
        x = played(new int[] {0, 0, 1, 0}, new int[] {0, 1, 1, 0}, new int[] {0, 2, 1, 0}, new int[] {0, 0, 1, 0});
        give(x, "3120");
        due("2 of 1 of 0", x.understood(2), 3);
        due("1 of 0", x.understood(1), 3);
        due("3 of none", x.understood(3), 0);
        give(x, "1032");
        due("2 by itself", x.understood(2), 3);
        due("1 of 0", x.understood(1), 1);
        give(x, "0231");
        due("2 of 1", x.understood(2), 3);
        due("0", x.understood(0), 0);
    }

    private static void hands() {
        says("HANDS: how many SCENES with a PROP find it elsewhere than where they begin: it lies where the SCENE with it "
                + "that was given latest ended (with none it lies where it should).");
        PlayedBack x = starts(4);
        x.back(0);
        x.prop(0, 1, 0, 2);
        x.prop(1, 1, 2, 4);
        x.prop(2, 1, 2, 3);
        x.prop(3, 0, 5, 5);
        give(x, "0123");
        due("from 0 to 2 to 4, and 2 is at 2", x.count(2), 1);
        give(x, "3201");
        due("0 finds it at 3, 1 finds it", x.count(2), 1);
        give(x, "2130");
        due("1 finds it at 3, 0 finds it at 4, a PROP of another one between", x.count(2), 2);
        says("With BACK a SCENE begins where it LEAVES it, and ends where it TAKES it;");
        x.back(1);
        give(x, "1032");
        due("1 from 4 to 2, 0 from 2 to 0, 2 at 3", x.count(2), 1);
        give(x, "0123");
        due("0 ends at 0, 1 begins at 4; 1 ends at 2, 2 begins at 3", x.count(2), 2);
        says("else the other way round.");
        x.back(0);
        due("0 ends at 2, 1 begins at 2; 1 ends at 4, 2 begins at 2", x.count(2), 1);
    }

    private static void rises() {
        says("RISES: how many pairs of an ACTOR and a place there are so that the ACTOR is in the CAST of the SCENE given "
                + "there, and in that of one ahead of it in THE ORDER in which it was killed.");
        PlayedBack x = played(new int[] {0, 0, 1, 0b111}, new int[] {30, 0, 1, 0b011}, new int[] {60, 0, 1, 0b110},
                new int[] {0, 0, 1, 0b011});
        due("3, 2 kills 1, in 1 it stands and 0 is killed, in 0 both stand", x.count(3), 1 + 2);
        give(x, "0123");
        due("1 kills 0; 2 kills 1; both stand in 3", x.count(3), 2);
        give(x, "0321");
        due("2 kills 1, who stands in 1", x.count(3), 1);
        give(x, "1203");
        due("0 and 1 in 0, both in 3", x.count(3), 4);
        x.set(1, 6, 0);
        due("1 doesn't come: 1 in 0, in 3", x.count(3), 2);
    }

    private static void takings() {
        says("TAKINGS (0 at first; held within -99999 to 99999),");
        PlayedBack x = new PlayedBack();
        due("at first", x.count(5), 0);
        text(x, 1, "999");
        due("101 evenings", x.evenings(101), 99999);
        text(x, 1, "0-999");
        due("one less", x.evenings(1), 99000);
        due("200 less", x.evenings(200), -99999);
        says("EVENINGS (0 at first; 9999 at most).");
        due("at first", new PlayedBack().count(6), 0);
        due("so far", x.count(6), 302);
        for (int i = 0; i < 48; i++) {
            x.evenings(200);
        }
        due("then", x.count(6), 9902);
        due("98 more", x.evenings(98), STATE);
        due("97 more", x.evenings(97), -99999);
        due("9999", x.count(6), 9999);
        page.passes("```");
    }

    // ---- 2: TEXTS

    private static void grammar() {
        says("2. TEXTS are read from THE TAPE (bytes, at most 50):");
        PlayedBack x = new PlayedBack();
        for (int i = 1; i <= 50; i++) {
            due("byte " + i, x.feed(i % 2 == 1 ? 'c' : '+', 1), i);
        }
        due("byte 51", x.feed('c', 1), FULL);
        due("c+ .. c+ wants one more", x.text(0), -60);
        says("T: A { | A }.");
        due("1 | 0 | 0", worth("1|0|0"), 1);
        due("nothing behind |", read("c|"), -12);
        says("A: B { & B }.");
        due("0 & 1 within |", worth("1|1&0"), 1);
        due("nothing ahead of &", read("&c"), -10);
        says("B: S, or S < S, S = S, S > S.");
        due("2 < 3 within &", worth("2<3&3>2&2=2"), 1);
        due("one of them only", read("c<l<m"), -13);
        due("one of them only", read("c=l>m"), -13);
        says("S: P { + P, - P }.");
        due("from the left", worth("9-4-3+1"), 3);
        due("within <", worth("1+1<1+2"), 1);
        due("nothing ahead of -", read("-c"), -10);
        says("P: Q { * Q, / Q, % Q }.");
        due("from the left", worth("100/7*2%5"), 3);
        due("within +", worth("1+2*3"), 7);
        says("Q: a NUMBER of 1 to 4 digits, a NAME, ! Q, ( T ).");
        due("4 digits", worth("0007"), 7);
        due("5 digits", read("12345"), -14);
        due("NAMES", worth("g*100+h*10+r", 1, 2, 3), 123);
        due("! of Q alone", worth("!0+5"), 6);
        due("! of ( T )", worth("!(0+5)"), 0);
        due("( ) of nothing", read("()"), -11);
        says("No blanks.");
        due("ahead", read(" c"), -10);
        due("between", read("c +l"), -11);
        says("At most 5 of ! and ( are open at once.");
        due("five (", read("(((((c)))))"), 1);
        due("six (", read("((((((c))))))"), -15);
        due("five !", read("!!!!!c"), 1);
        due("six !", read("!!!!!!c"), -15);
        due("both", read("!(!(!(c)))"), -15);
        due("closed ahead of the next", read("!!!c+!!!c+(((c)))"), 1);
    }

    private static void values() {
        says("Ints that wrap;");
        due("+", worth("g+1<0", Integer.MAX_VALUE, 0, 0), 1);
        due("-", worth("g-1>0", Integer.MIN_VALUE, 0, 0), 1);
        due("*", worth("g*g", 65536, 0, 0), 0);
        says("/ cut, % the rest that it leaves, both by 0 are 0;");
        due("17 / 5", worth("17/5"), 3);
        due("-17 / 5", worth("(0-17)/5"), -3);
        due("-17 % 5", worth("(0-17)%5"), -2);
        due("17 % -5", worth("17%(0-5)"), 2);
        due("17 / 0", worth("17/0"), 0);
        due("17 % 0", worth("17%0"), 0);
        says("| & < = > ! are 1 or 0, what is not 0 being true;");
        due("7 | 0", worth("7|0"), 1);
        due("0 | 0", worth("0|0"), 0);
        due("7 & 8", worth("7&8"), 1);
        due("7 & 0", worth("7&0"), 0);
        due("2 < 3, 3 < 3", worth("(2<3)*10+(3<3)"), 10);
        due("3 = 3, 3 = 2", worth("(3=3)*10+(3=2)"), 10);
        due("3 > 2, 3 > 3", worth("(3>2)*10+(3>3)"), 10);
        due("! 0, ! -7", worth("!0*10+!(0-7)"), 10);
        says("all is worked out.");
        due("what can't change it, too", worth("1|1/0"), 1);
        due("what can't change it, too", worth("0&1%0"), 0);
    }

    private static void faults() {
        says("FAULT: the place of the first byte with which no TEXT goes on;");
        due("the first", read("x"), -10);
        due("a byte of 0", text(new PlayedBack(), 0, "c\u0000"), -11);
        due("a NAME behind a NUMBER", read("12c"), -12);
        due("a ) too many", read("(c))"), -13);
        due("two signs", read("c*/l"), -12);
        says("how many there are, if it ends too early.");
        due("none", read(""), -10);
        due("(c", read("(c"), -12);
        due("c&l|", read("c&l|"), -14);
    }

    private static void uses() {
        page.passes("```text");
        says("USES: 0 GUESS, NAMES c what isn't given, l LONG, m m;");
        PlayedBack x = played(new int[] {0, 0, 3, 0}, new int[] {4, 1, 7, 0});
        due("all three", text(x, 0, "c*50+l*2+m"), 1);
        due("1 lacks, 7 minutes, m 4", x.guess(0), 68);
        due("none lacks, 3 minutes, m 0", x.guess(1), 6);
        due("no NAME of CLAP", text(x, 0, "g"), -10);
        says("held within 0 to 99;");
        due("100", x.law(0, 0, 50, 0), 99);
        due("99", x.law(0, 0, 49, 1), 99);
        due("-1", x.law(0, 0, 0, -1), 0);
        says("without a TEXT c*10.");
        x = new PlayedBack();
        due("of 3", x.law(0, 3, 30, 9), 30);
        says("1 CLAP (of an EVENING), NAMES g GUESSED, h HANDS, r RISES;");
        x = played(new int[] {30, 0, 1, 1}, new int[] {0, 1, 1, 1}, new int[] {0, 1, 1, 1});
        x.prop(0, 0, 0, 1);
        x.prop(1, 0, 3, 4);
        give(x, "102");
        due("GUESSED", x.count(1), 10);
        due("HANDS", x.count(2), 1);
        due("RISES", x.count(3), 1);
        due("all three", text(x, 1, "g*7+h*40+r*300"), 1);
        due("an EVENING", x.evenings(1), 410);
        due("no NAME of GUESS", text(x, 1, "c"), -10);
        says("held within -999 to 999;");
        due("1000", worth("g", 1000, 0, 0), 999);
        due("-1000", worth("g", -1000, 0, 0), -999);
        says("without a TEXT 100-g-h*5.");
        due("of 10, 3", new PlayedBack().law(1, 10, 3, 70), 75);
        page.passes("```");
    }

    // ---- 3: what would be

    private static void choices() {
        says("3. LEAST GUESSED: of all orders that with the least GUESSED;");
        PlayedBack x = played(new int[] {0, 0, 1, 0}, new int[] {0, 1, 9, 0}, new int[] {0, 0, 5, 0});
        text(x, 0, "9-c*5");
        due("with 1 ahead of 0: 4, 9, 9", x.least(-1), 22);
        says("FEWEST HANDS: that with the fewest HANDS;");
        x.back(0);
        x.prop(0, 2, 3, 5);
        x.prop(1, 2, 1, 3);
        due("1 leaves it where 0 takes it", x.fewest(-1), 0);
        says("of several the first as a row.");
        due("102, 120, 210", leastOf(x), "22:102");
        due("102, 120, 210", fewestOf(x), "0:102");
        due("any", leastOf(starts(3)), "0:012");
        says("ORDERS by g (0 to 9999): how many orders have GUESSED of g at most.");
        due("22", x.orders(22), 3);
        due("21", x.orders(21), 0);
        due("27", x.orders(27), 6);
        due("9999", x.orders(9999), 6);
        due("10000", x.orders(10000), BEYOND);
        page.passes("```text");
    }

    private static void worlds() {
        says("MENDED, for a SCENE and v (0, 1): the fewest SCENES without CAUSES whose WILL is changed, so that COMES of it "
                + "is v;");
        PlayedBack x = starts(4);
        will(x, 0, 0, 0, 0);
        x.scene(0, 0b0011, 1, 0);
        x.scene(10, 0b11100, 1, 0);
        due("by 0 and 1", x.mended(4, 1, 0), 2);
        due("these", x.mended(4, 1, 1), 0b0011);
        due("by one of 2, 3", x.mended(5, 1, 0), 1);
        due("by none changed", x.mended(5, 0, 0), 0);
        says("of several the least set (as bits).");
        due("2", x.mended(5, 1, 1), 0b0100);
        says("THOUGHT at a place (0 to as many as there are SCENES): of all WILLS of the SCENES without CAUSES (each 0 or 1) "
                + "how many there are by which COMES of each SCENE that is given ahead of that place is as it is.");
        x = played(new int[] {0, 0, 1, 0}, new int[] {0, 0, 1, 0}, new int[] {10, 3, 1, 0});
        due("of 4", x.thought(0), 4);
        due("2 comes by three of them", x.thought(1), 3);
        due("1 comes by two of them", x.thought(2), 2);
        due("0 comes by one of them", x.thought(3), 1);
        due("there is no such place", x.thought(4), BEYOND);
        says("SURE: the first place with just one.");
        due("behind all", x.sure(), 3);
        x.become(2, 0);
        due("all come by one of them", x.sure(), 1);
        says("EXPLAINED, for a SCENE and a set (of SCENES): by which KIND (0 to 6) of it, with its m, all else as it is, "
                + "just those of the set COME: the least.");
        x.become(2, 7);
        due("by all: SCENE", x.explained(2, 0b111), 0);
        due("JOKE ahead of DEATH", x.explained(2, 0b011), 2);
        due("0 can't be otherwise", x.explained(2, 0b110), NONE);
        will(x, 1, 0);
        due("by one of two: LETTER", x.explained(2, 0b101), 1);
        due("by one of two: SCENE", x.explained(2, 0b001), 0);
        will(x, 0, 0);
        due("by none of two: DEATH", x.explained(2, 0b100), 3);
        says("FIRST FLAW: the first place in THE ORDER of a SCENE that is BROKEN.");
        x = played(new int[] {30, 0, 1, 1}, new int[] {0, 0, 1, 1}, new int[] {0, 0, 1, 0}, new int[] {0, 0, 1, 1});
        give(x, "0213");
        due("1", x.flaw(), 2);
        give(x, "2310");
        due("3", x.flaw(), 1);
    }

    // ---- 3: EVENINGS, VOICES

    private static void evenings() {
        says("AN EVENING: TAKINGS are more by CLAP; EVENINGS 1 more.");
        PlayedBack x = played(new int[] {0, 0, 1, 0}, new int[] {0, 1, 1, 0});
        due("100 less 10", x.evenings(1), 90);
        due("one", x.count(6), 1);
        says("BY DRAWS: z is told (1 at first); each makes it z * 1103515245 + 12345 (an int), and gives z >>> 8.");
        due("at first", x.count(11), 1);
        due("changed ahead of it: none to guess", x.loose(1), 190);
        due("1103515245 + 12345", x.count(11), 1103527590);
        x.seed(3);
        x.loose(1);
        due("3 * 1103515245 + 12345, an int", x.count(11), -984409216);
        says("Ahead of each EVENING by draws a draw's rest by how many SCENES there are, less 1: that place and the next one "
                + "are changed in THE ORDER");
        x = starts(3);
        x.loose(1);
        due("1103527590 >>> 8 is 4310654, its rest by 2 is 0", orderOf(x), "120");
        x = starts(4);
        x.loose(1);
        due("4310654, its rest by 3 is 2", orderOf(x), "3201");
        says("(with less than two SCENES no draw).");
        x = starts(1);
        due("an EVENING", x.loose(1), 100);
        due("z stays", x.count(11), 1);
        due("none on stage", new PlayedBack().loose(2), 200);
    }

    /** SCENE 3 of seven, as one of km. */
    private static PlayedBack third(int km) {
        PlayedBack x = starts(7);
        x.become(3, km);
        return x;
    }

    private static void voices() {
        says("VOICES of a SCENE, with a number x (ints that go round); n is its number, m as told: "
                + "0 opens, 1 plays, 2 closes, 3 tells.");
        PlayedBack x = third(4);
        due("opens 10: 10 + 3", x.voice(3, 0, 10), 13);
        due("closes 10: 10 - 4", x.voice(3, 2, 10), 6);
        due("opens round", x.voice(3, 0, Integer.MAX_VALUE), Integer.MIN_VALUE + 2);
        due("another's number", x.voice(6, 0, 10), 16);
        due("there is no act 4", x.voice(3, 4, 10), BEYOND);
        says("BODIES: SCENE: 10 opens: x + n. 11 plays: opens(x) * 2. 12 closes: x - m. 13 tells: plays(x) ^ closes(x).");
        due("opens", x.voice(3, 0, 5), 8);
        due("plays", x.voice(3, 1, 5), 16);
        due("closes", x.voice(3, 2, 5), 1);
        due("tells: 16 ^ 1", x.voice(3, 3, 5), 17);
    }

    private static void bodies() {
        says("LETTER: 20 plays: super.plays(x) - closes(1).");
        PlayedBack x = third(14);
        due("plays: 16 - (1 - 4)", x.voice(3, 1, 5), 19);
        due("tells: 19 ^ 1", x.voice(3, 3, 5), 18);
        says("JOKE: 30 opens: super.opens(x) * 3.");
        x = third(24);
        due("opens: 8 * 3", x.voice(3, 0, 5), 24);
        due("plays: 24 * 2", x.voice(3, 1, 5), 48);
        says("DEATH: 40 closes: -super.closes(x).");
        x = third(34);
        due("closes: -(5 - 4)", x.voice(3, 2, 5), -1);
        due("tells: 16 ^ -1", x.voice(3, 3, 5), -17);
        says("SECRET: 50 plays: super.plays(x + 1).");
        x = third(44);
        due("plays: (6 + 3) * 2 - (1 - 4)", x.voice(3, 1, 5), 21);
        says("FARCE: 60 tells: super.tells(x) - opens(2).");
        x = third(54);
        due("tells: (48 ^ 1) - (2 + 3) * 3", x.voice(3, 3, 5), 34);
        says("MURDER: 70 closes: super.closes(x) ^ n.");
        x = third(64);
        due("closes: -1 ^ 3", x.voice(3, 2, 5), -4);
        says("71 tells: plays(x) - super.tells(x).");
        due("tells: 16 - (16 ^ -4)", x.voice(3, 3, 5), 36);
        says("opens(..) is the BODY of its KIND, or of the next KIND above that has one;");
        due("a FARCE plays as a SCENE, and opens as a JOKE", third(50).voice(3, 1, 5), 48);
        due("a SECRET closes as a SCENE", third(44).voice(3, 2, 5), 1);
        says("super.opens(..) that from the KIND above the BODY's on.");
        due("a FARCE opens as a JOKE, once", third(50).voice(3, 0, 5), 24);
        due("a MURDER closes by a DEATH's by a SCENE's", third(60).voice(3, 2, 5), -5 ^ 3);
    }

    private static void trace() {
        says("THE TRACE: the numbers of BODIES of the latest voice(), as they began (what stands left is worked out first), "
                + "the first 40.");
        PlayedBack x = third(0);
        due("none yet", x.count(10), 0);
        x.voice(3, 3, 0);
        due("a SCENE tells", traceOf(x), "13 11 10 12");
        x.become(3, 40);
        x.voice(3, 3, 0);
        due("a SECRET tells", traceOf(x), "13 50 20 11 10 12 12");
        x.become(3, 50);
        x.voice(3, 3, 0);
        due("a FARCE tells", traceOf(x), "60 13 11 30 10 12 30 10");
        x.become(3, 60);
        x.voice(3, 3, 0);
        due("a MURDER tells", traceOf(x), "71 11 10 13 11 10 70 40 12");
        x.voice(3, 2, 0);
        due("the latest alone", traceOf(x), "70 40 12");
        page.passes("```");
    }

    // ---- 4: SHEETS

    private static void sheets() {
        says("4. SHEETS 0 .. 3 are rows of 8, 16, 32 bits, at most 40 numbers, or missing (as at first).");
        PlayedBack x = starts(1);
        for (int sheet = 0; sheet <= 3; sheet++) {
            due("missing", x.put(sheet, 0, 0), NONE);
            due("40 of 8", x.sheet(sheet, 8, 40), 1);
            due("the last", x.put(sheet, 39, 9), 1);
            due("one more", x.put(sheet, 40, 9), BEYOND);
            due("41", x.sheet(sheet, 16, 41), BEYOND);
            due("of 16", x.sheet(sheet, 16, 1), 1);
            due("of 24", x.sheet(sheet, 24, 1), BEYOND);
            due("of 32", x.sheet(sheet, 32, 1), 1);
            x.put(sheet, 0, 1 << 31 | 1);
            due("the highest bit is there", x.judge(sheet), 0);
            due("missing again", x.sheet(sheet, 0, 0), 1);
            due("it is", x.put(sheet, 0, 0), NONE);
        }
        due("there is no fifth", x.sheet(4, 8, 1), BEYOND);
    }

    private static void interfaceSays() throws IOException {
        String program = Files.readString(Path.of("src/main/java/PlayedBack.java"));
        ahead(program, "---- scenes", "scene", "prop", "ofScene", "become", "as", "set", "comes");
        ahead(program, "---- the order", "given", "place", "back", "guess", "understood", "flaw", "turn");
        ahead(program, "---- texts", "feed", "text", "law");
        ahead(program, "---- what would be", "least", "fewest", "orders", "mended", "thought", "sure", "explained");
        ahead(program, "---- evenings", "evenings", "loose");
        ahead(program, "---- draws, voices, sheets, images, what is told", "seed", "voice", "trace", "sheet", "put", "move",
                "order", "judge", "image", "restore", "tell", "check", "count", "told");
    }

    /** The calls stand in the program behind that line, and ahead of the next such line. */
    private static void ahead(String program, String line, String... calls) {
        says("Ahead of the calls `" + String.join("`, `", calls) + "` the interface says: " + line + ".");
        int from = program.indexOf("// " + line + "\n");
        int to = program.indexOf("// ----", from + line.length());
        due("the program says so", from >= 0 && to > from ? 1 : 0, 1);
        for (String call : calls) {
            int at = program.indexOf("public int " + call + "(");
            due(call + " stands there", at > from && at < to ? 1 : 0, 1);
        }
    }
}
