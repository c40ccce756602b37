import java.nio.charset.StandardCharsets;

/**
 * The promises of the document, from the first to the last, sentence by sentence: ordinary calls, the edges that it
 * names, wrong ones. TermsTests has what stands ahead of them.
 */
public final class PromiseTests {
    private static final int LOW = -1000000000;
    private static final int BEYOND = LOW - 1;
    private static final int NONE = LOW - 2;
    private static final int STATE = LOW - 3;
    private static final int FULL = LOW - 4;
    private static final int KIND = LOW - 5;

    private static final Page page = new Page("## Promise 1: A new object");
    private static int promises = 0;

    private static void due(String what, long got, long want) {
        page.due(what, got, want);
    }

    private static void says(String words) {
        page.says(words);
    }

    private static void promise(String title, String call) {
        promises++;
        page.titled("## Promise " + promises + ": " + title);
        page.passes("`" + call + "`:");
    }

    /** A text comes to THE TAPE, eight bytes a call. */
    private static void feed(PlayedBack x, String text) {
        byte[] bytes = text.getBytes(StandardCharsets.ISO_8859_1);
        for (int i = 0; i < bytes.length; i += 8) {
            long word = 0;
            int n = Math.min(8, bytes.length - i);
            for (int k = 0; k < n; k++) {
                word |= (bytes[i + k] & 255L) << 8 * k;
            }
            x.feed(word, n);
        }
    }

    private static int text(PlayedBack x, int use, String text) {
        feed(x, text);
        return x.text(use);
    }

    private static int worth(int use, String text, int a, int b, int c) {
        PlayedBack x = new PlayedBack();
        int read = text(x, use, text);
        return read == 1 ? x.law(use, a, b, c) : read;
    }

    /** SCENES without CAUSES, of one minute, with an empty CAST. */
    private static PlayedBack starts(int n) {
        PlayedBack x = new PlayedBack();
        for (int i = 0; i < n; i++) {
            x.scene(0, 0, 1, 0);
        }
        return x;
    }

    private static String orderOf(PlayedBack x) {
        StringBuilder s = new StringBuilder();
        for (int i = 0; i < x.count(0); i++) {
            s.append(x.given(i));
        }
        return s.toString();
    }

    private static void dueOrder(String what, PlayedBack x, String want) {
        page.due(what, orderOf(x), want);
    }

    public static void main(String[] args) {
        newObject();
        scene();
        prop();
        ofScene();
        become();
        as();
        set();
        comes();
        given();
        place();
        back();
        guess();
        understood();
        flaw();
        turn();
        feed();
        text();
        law();
        least();
        fewest();
        orders();
        mended();
        thought();
        sure();
        explained();
        evenings();
        loose();
        seed();
        voice();
        trace();
        sheet();
        put();
        move();
        order();
        judge();
        image();
        restore();
        tell();
        check();
        count();
        told();
        notPromised();
        due("how many promises", promises, 41);
        page.end("");
    }

    private static void newObject() {
        promise("A new object", "PlayedBack()");
        says("All as at first;");
        PlayedBack x = new PlayedBack();
        int[] first = {0, 0, 0, 0, 1, 0, 0, 0, 0, 0, 0, 1};
        for (int what = 0; what < first.length; what++) {
            due("count(" + what + ")", x.count(what), first[what]);
        }
        for (int k = 1; k <= 5; k++) {
            due("told(" + k + ")", x.told(k), 0);
        }
        for (int s = 0; s < 4; s++) {
            due("put(" + s + ", 0, 0)", x.put(s, 0, 0), NONE);
        }
        due("law(0, 4, 4, 4)", x.law(0, 4, 4, 4), 40);
        due("law(1, 4, 4, 4)", x.law(1, 4, 4, 4), 76);
        due("restore()", x.restore(), NONE);
        due("trace(0)", x.trace(0), NONE);
        says("no SCENES.");
        due("comes()", x.comes(), 0);
        due("given(0)", x.given(0), BEYOND);
        PlayedBack other = new PlayedBack();
        other.scene(0, 0, 1, 0);
        due("count(0) of one beside another", x.count(0), 0);
    }

    // ---- scenes

    private static void scene() {
        promise("scene", "int scene(int km, int causes, int takes, int cast)");
        says("A SCENE (km: 10 times the KIND, and m) of CAUSES, LONG, with a CAST and no PROP: its number.");
        PlayedBack x = new PlayedBack();
        due("the first", x.scene(0, 0, 1, 0), 0);
        due("the second", x.scene(69, 1, 30, 63), 1);
        int[] second = {6, 9, 1, 30, 63, 4, 1};
        for (int what = 0; what < second.length; what++) {
            due("ofScene(1, " + what + ")", x.ofScene(1, what), second[what]);
        }
        due("it comes first", x.given(0), 1);
        due("of both", x.scene(0, 3, 1, 0), 2);
        says("BEYOND: also CAUSES that there are not.");
        due("km -1", x.scene(-1, 0, 1, 0), BEYOND);
        due("km 70", x.scene(70, 0, 1, 0), BEYOND);
        due("CAUSES -1", x.scene(0, -1, 1, 0), BEYOND);
        due("CAUSES that there are not", x.scene(0, 8, 1, 0), BEYOND);
        due("CAUSES that there are, and one that there isn't", x.scene(0, 15, 1, 0), BEYOND);
        due("LONG 0", x.scene(0, 0, 0, 0), BEYOND);
        due("LONG 31", x.scene(0, 0, 31, 0), BEYOND);
        due("CAST -1", x.scene(0, 0, 1, -1), BEYOND);
        due("CAST 64", x.scene(0, 0, 1, 64), BEYOND);
        due("nothing came of them", x.count(0), 3);
        due("any CAUSES where there is no SCENE", new PlayedBack().scene(0, 1, 1, 0), BEYOND);
        says("FULL.");
        for (int i = 3; i < 7; i++) {
            due("scene " + i, x.scene(0, 0, 1, 0), i);
        }
        due("an eighth", x.scene(0, 0, 1, 0), FULL);
        due("an eighth with all CAUSES", x.scene(0, 127, 1, 0), FULL);
        due("an eighth, wrong (BEYOND ahead of FULL)", x.scene(0, 128, 1, 0), BEYOND);
        due("an eighth of LONG 0", x.scene(0, 0, 0, 0), BEYOND);
        due("still seven", x.count(0), 7);
        dueOrder("latest first", x, "6543210");
    }

    private static void prop() {
        promise("prop", "int prop(int scene, int prop, int from, int to)");
        says("The PROP of a SCENE becomes one that it TAKES and LEAVES so");
        PlayedBack x = starts(2);
        due("none yet", x.ofScene(0, 5), 4);
        due("PROP 3", x.prop(0, 3, 5, 0), 1);
        due("it is there", x.ofScene(0, 5), 3);
        due("PROP 3 elsewhere", x.prop(1, 3, 1, 5), 1);
        due("1 ends where it takes it, at 1; 0 begins where it leaves it, at 0", x.count(2), 1);
        due("PROP 3 once more", x.prop(1, 3, 0, 5), 1);
        due("it lies right", x.count(2), 0);
        says("(with 4: none, both don't matter): 1.");
        due("none", x.prop(0, 4, -7, 99), 1);
        due("it has none", x.ofScene(0, 5), 4);
        x.prop(1, 3, 1, 5);
        due("one alone finds it where it should", x.count(2), 0);
        says("BEYOND.");
        due("no such SCENE", x.prop(2, 0, 0, 0), BEYOND);
        due("no such SCENE, with none", x.prop(2, 4, 0, 0), BEYOND);
        due("SCENE -1", x.prop(-1, 0, 0, 0), BEYOND);
        due("PROP -1", x.prop(0, -1, 0, 0), BEYOND);
        due("PROP 5", x.prop(0, 5, 0, 0), BEYOND);
        due("from -1", x.prop(0, 3, -1, 0), BEYOND);
        due("from 6", x.prop(0, 3, 6, 0), BEYOND);
        due("to -1", x.prop(0, 3, 0, -1), BEYOND);
        due("to 6", x.prop(0, 3, 0, 6), BEYOND);
        due("none still", x.ofScene(0, 5), 4);
    }

    private static void ofScene() {
        promise("ofScene", "int ofScene(int scene, int what)");
        says("Of a SCENE: 0 KIND, 1 m, 2 CAUSES, 3 LONG, 4 CAST, 5 PROP, 6 WILL, 7 COMES, 8 SHOCK, "
                + "9 whom it kills (-1: nobody), 10 whether it is BROKEN.");
        PlayedBack x = new PlayedBack();
        x.scene(39, 0, 7, 12);
        x.scene(23, 1, 8, 5);
        x.scene(64, 0, 9, 4);
        x.scene(54, 0, 9, 1);
        x.scene(17, 0, 9, 2);
        x.scene(48, 0, 9, 0);
        x.scene(35, 0, 9, 0);
        int[][] want = {
            {3, 9, 0, 7, 12, 4, 1, 1, 5, 2, 0},
            {2, 3, 1, 8, 5, 4, 1, 1, 3, -1, 1},
            {6, 4, 0, 9, 4, 4, 1, 1, 9, 2, 1},
            {5, 4, 0, 9, 1, 4, 1, 1, 4, -1, 0},
            {1, 7, 0, 9, 2, 4, 1, 1, 0, -1, 0},
            {4, 8, 0, 9, 0, 4, 1, 1, 0, -1, 0},
            {3, 5, 0, 9, 0, 4, 1, 1, 5, -1, 0},
        };
        for (int scene = 0; scene < want.length; scene++) {
            for (int what = 0; what <= 10; what++) {
                due("ofScene(" + scene + ", " + what + ")", x.ofScene(scene, what), want[scene][what]);
            }
        }
        x.set(0, 6, 0);
        due("a DEATH that doesn't come kills nobody", x.ofScene(0, 9), -1);
        due("so nobody is broken of it", x.ofScene(2, 10), 0);
        due("one that doesn't come", x.ofScene(1, 7), 0);
        x.set(0, 6, 1);
        x.set(1, 4, 8);
        due("the other ACTOR of the DEATH lives", x.ofScene(1, 10), 0);
        x.set(0, 4, 0);
        x.set(1, 4, 63);
        due("nobody killed", x.ofScene(1, 10), 0);
        x.set(2, 4, 32);
        x.set(0, 4, 32);
        due("ACTOR 5", x.ofScene(0, 9), 5);
        x.set(0, 4, 1);
        due("ACTOR 0", x.ofScene(0, 9), 0);
        PlayedBack y = new PlayedBack();
        y.scene(0, 0, 1, 1);
        y.scene(30, 0, 1, 1);
        due("killed by a greater number only", y.ofScene(0, 10), 0);
        due("killed by itself only", y.ofScene(1, 10), 0);
        says("BEYOND.");
        due("no such SCENE", x.ofScene(7, 0), BEYOND);
        due("SCENE -1", x.ofScene(-1, 0), BEYOND);
        due("what -1", x.ofScene(0, -1), BEYOND);
        due("what 11", x.ofScene(0, 11), BEYOND);
    }

    private static void become() {
        promise("become", "int become(int scene, int km)");
        says("A SCENE becomes one of a KIND, with m (km): the KIND that it was.");
        PlayedBack x = new PlayedBack();
        x.scene(25, 0, 1, 3);
        due("it was a JOKE", x.become(0, 69), 2);
        due("a MURDER", x.ofScene(0, 0), 6);
        due("with 9", x.ofScene(0, 1), 9);
        due("that kills", x.ofScene(0, 9), 0);
        due("it was a MURDER", x.become(0, 0), 6);
        due("with 0", x.ofScene(0, 1), 0);
        says("BEYOND.");
        due("no such SCENE", x.become(1, 0), BEYOND);
        due("SCENE -1", x.become(-1, 0), BEYOND);
        due("km -1", x.become(0, -1), BEYOND);
        due("km 70", x.become(0, 70), BEYOND);
        due("still a SCENE", x.ofScene(0, 0), 0);
    }

    private static void as() {
        promise("as", "int as(int scene, int kind)");
        says("A SCENE as one of a KIND: m.");
        PlayedBack x = new PlayedBack();
        x.scene(57, 0, 1, 0);
        due("a FARCE as a FARCE", x.as(0, 5), 7);
        due("a FARCE as a JOKE", x.as(0, 2), 7);
        due("a FARCE as a SCENE", x.as(0, 0), 7);
        says("BEYOND.");
        due("no such SCENE", x.as(1, 0), BEYOND);
        due("SCENE -1", x.as(-1, 0), BEYOND);
        due("kind -1", x.as(0, -1), BEYOND);
        due("kind 7", x.as(0, 7), BEYOND);
        says("KIND: it isn't of that KIND, nor of one under it.");
        String[] under = {"0", "01", "02", "03", "014", "025", "036"};
        for (int kind = 0; kind < 7; kind++) {
            x.become(0, kind * 10 + 3 + kind);
            for (int asKind = 0; asKind < 7; asKind++) {
                boolean is = under[kind].indexOf('0' + asKind) >= 0;
                due(kind + " as " + asKind, x.as(0, asKind), is ? 3 + kind : KIND);
            }
        }
    }

    private static void set() {
        promise("set", "int set(int scene, int what, int v)");
        says("LONG (what 3), CAST (4), WILL (6) of a SCENE becomes v: what it was.");
        PlayedBack x = new PlayedBack();
        x.scene(0, 0, 5, 9);
        due("LONG 30", x.set(0, 3, 30), 5);
        due("LONG 1", x.set(0, 3, 1), 30);
        due("CAST 63", x.set(0, 4, 63), 9);
        due("CAST 0", x.set(0, 4, 0), 63);
        due("WILL 0", x.set(0, 6, 0), 1);
        due("it doesn't come then", x.comes(), 0);
        due("WILL 1", x.set(0, 6, 1), 0);
        due("LONG then", x.ofScene(0, 3), 1);
        due("CAST then", x.ofScene(0, 4), 0);
        says("BEYOND.");
        due("no such SCENE", x.set(1, 3, 1), BEYOND);
        due("SCENE -1", x.set(-1, 3, 1), BEYOND);
        for (int what = -1; what <= 11; what++) {
            if (what != 3 && what != 4 && what != 6) {
                due("what " + what, x.set(0, what, 1), BEYOND);
            }
        }
        due("LONG 0", x.set(0, 3, 0), BEYOND);
        due("LONG 31", x.set(0, 3, 31), BEYOND);
        due("CAST -1", x.set(0, 4, -1), BEYOND);
        due("CAST 64", x.set(0, 4, 64), BEYOND);
        due("WILL -1", x.set(0, 6, -1), BEYOND);
        due("WILL 2", x.set(0, 6, 2), BEYOND);
        due("LONG still", x.ofScene(0, 3), 1);
        due("CAST still", x.ofScene(0, 4), 0);
        due("WILL still", x.ofScene(0, 6), 1);
    }

    /** COMES of a SCENE of km with n CAUSES, of which t COME. */
    private static int comesOf(int km, int n, int t) {
        PlayedBack x = starts(n);
        for (int i = t; i < n; i++) {
            x.set(i, 6, 0);
        }
        x.scene(km, (1 << n) - 1, 1, 0);
        x.set(n, 6, t % 2);
        return x.comes() >> n;
    }

    private static void comes() {
        promise("comes", "int comes()");
        says("Those that COME, as bits.");
        due("no SCENES", new PlayedBack().comes(), 0);
        PlayedBack x = starts(3);
        due("by WILL", x.comes(), 7);
        x.set(1, 6, 0);
        due("by WILL 0", x.comes(), 5);
        for (int kind = 0; kind < 7; kind++) {
            x.become(1, kind * 10 + 9);
            due("without CAUSES, KIND " + kind, x.comes(), 5);
        }
        String[] perKind = {"00001", "01111", "01010", "11110"};
        for (int kind = 0; kind < 4; kind++) {
            for (int t = 0; t <= 4; t++) {
                due("KIND " + kind + " of " + t, comesOf(kind * 10 + 8, 4, t), perKind[kind].charAt(t) - '0');
            }
        }
        String[] secrets = {"01111", "00111", "00011"};
        for (int m = 0; m < 10; m++) {
            for (int t = 0; t <= 4; t++) {
                due("SECRET " + m + " of " + t, comesOf(40 + m, 4, t), secrets[m % 3].charAt(t) - '0');
                due("FARCE " + m + " of " + t, comesOf(50 + m, 4, t), (t + m) % 2);
                due("MURDER " + m + " of " + t, comesOf(60 + m, 4, t), m > 4 || t < 4 ? 1 : 0);
            }
        }
    }

    // ---- the order

    private static void given() {
        promise("given", "int given(int place)");
        says("Which SCENE is given at a place.");
        PlayedBack x = starts(3);
        due("place 0", x.given(0), 2);
        due("place 1", x.given(1), 1);
        due("place 2", x.given(2), 0);
        says("BEYOND.");
        due("place -1", x.given(-1), BEYOND);
        due("place 3", x.given(3), BEYOND);
        due("place 0 of none", new PlayedBack().given(0), BEYOND);
    }

    private static void place() {
        promise("place", "int place(int scene, int place)");
        says("A SCENE goes to a place in THE ORDER, the others stay one behind the other: the place where it was.");
        PlayedBack x = starts(5);
        due("0 to the first", x.place(0, 0), 4);
        dueOrder("0 first", x, "04321");
        due("4 to the last", x.place(4, 4), 1);
        dueOrder("4 last", x, "03214");
        due("2 to 1", x.place(2, 1), 2);
        dueOrder("2 at 1", x, "02314");
        due("2 where it is", x.place(2, 1), 1);
        dueOrder("2 at 1 still", x, "02314");
        due("0 to 3", x.place(0, 3), 0);
        dueOrder("0 at 3", x, "23104");
        x.scene(0, 0, 1, 0);
        dueOrder("a new one comes first", x, "523104");
        says("BEYOND.");
        due("no such SCENE", x.place(6, 0), BEYOND);
        due("SCENE -1", x.place(-1, 0), BEYOND);
        due("place -1", x.place(0, -1), BEYOND);
        due("place 6", x.place(0, 6), BEYOND);
        dueOrder("as it was", x, "523104");
    }

    private static void back() {
        promise("back", "int back(int v)");
        says("BACK becomes v: what it was.");
        PlayedBack x = starts(2);
        due("1 at first", x.back(0), 1);
        due("0 then", x.back(0), 0);
        due("0 still", x.back(1), 0);
        x.prop(0, 2, 0, 1);
        x.prop(1, 2, 1, 5);
        due("backwards 1 is given from 5 to 1, 0 from 1 to 0", x.count(2), 0);
        x.back(0);
        due("forwards 1 is given from 1 to 5, 0 from 0 to 1", x.count(2), 1);
        x.turn();
        due("forwards in the order in which they happen", x.count(2), 0);
        says("BEYOND.");
        due("-1", x.back(-1), BEYOND);
        due("2", x.back(2), BEYOND);
        due("0 still", x.count(4), 0);
    }

    private static void guess() {
        promise("guess", "int guess(int place)");
        says("GUESS at the SCENE given at a place.");
        PlayedBack x = new PlayedBack();
        x.scene(25, 0, 4, 0);
        x.scene(69, 1, 20, 0);
        x.scene(16, 3, 3, 0);
        x.scene(57, 7, 3, 0);
        x.scene(33, 1, 3, 0);
        due("DEATH of 1", x.guess(0), 15);
        due("FARCE of 3, with 7", x.guess(1), 37);
        due("LETTER of 2", x.guess(2), 20);
        due("MURDER of 1, with 5 and 9", x.guess(3), 24);
        due("JOKE without CAUSES", x.guess(4), 0);
        x.place(0, 0);
        due("DEATH, its CAUSE given", x.guess(1), 0);
        due("FARCE, one given", x.guess(2), 27);
        due("LETTER, one given", x.guess(3), 10);
        due("all together", x.count(1), 37);
        text(x, 0, "c*100+l-m");
        due("by the TEXT, with c of 0", x.guess(0), 0);
        due("by the TEXT, held", x.guess(2), 99 + 7);
        text(x, 0, "l-m");
        due("no SHOCK without what lacks", x.guess(4), 11);
        due("held at 0, and SHOCK beside", x.guess(2), 7);
        x.place(3, 4);
        due("none lacks: no SHOCK", x.guess(4), 0);
        says("BEYOND.");
        due("place -1", x.guess(-1), BEYOND);
        due("place 5", x.guess(5), BEYOND);
        due("place 0 of none", new PlayedBack().guess(0), BEYOND);
    }

    private static void understood() {
        promise("understood", "int understood(int scene)");
        says("The place at which a SCENE is UNDERSTOOD.");
        PlayedBack x = new PlayedBack();
        x.scene(0, 0, 1, 0);
        x.scene(0, 1, 1, 0);
        x.scene(0, 2, 1, 0);
        x.scene(0, 0, 1, 0);
        due("2 by 1 by 0", x.understood(2), 3);
        due("0 by itself", x.understood(0), 3);
        due("3 by itself", x.understood(3), 0);
        x.turn();
        due("2 when it is given", x.understood(2), 2);
        x.place(1, 3);
        due("2 by 1", x.understood(2), 3);
        x.place(0, 3);
        due("2 by 0, a CAUSE of a CAUSE", x.understood(2), 3);
        due("1 by 0", x.understood(1), 3);
        says("BEYOND.");
        due("no such SCENE", x.understood(4), BEYOND);
        due("SCENE -1", x.understood(-1), BEYOND);
    }

    private static void flaw() {
        promise("flaw", "int flaw()");
        says("FIRST FLAW.");
        PlayedBack x = new PlayedBack();
        x.scene(0, 0, 1, 1);
        x.scene(30, 0, 1, 5);
        x.scene(0, 0, 1, 2);
        x.scene(0, 0, 1, 1);
        due("at the first place", x.flaw(), 0);
        x.place(3, 2);
        due("at place 2", x.flaw(), 2);
        x.set(3, 6, 0);
        due("one that doesn't come is broken, too", x.flaw(), 2);
        says("NONE: there is none.");
        x.set(1, 6, 0);
        due("none is killed", x.flaw(), NONE);
        x.set(1, 6, 1);
        x.set(3, 4, 62);
        due("the dead one isn't in it", x.flaw(), NONE);
        due("no SCENES", new PlayedBack().flaw(), NONE);
    }

    private static void turn() {
        promise("turn", "int turn()");
        says("THE ORDER is turned round: how many SCENES.");
        due("none", new PlayedBack().turn(), 0);
        for (int n = 1; n <= 7; n++) {
            PlayedBack x = starts(n);
            due("so many", x.turn(), n);
            dueOrder("turned", x, "0123456".substring(0, n));
            x.turn();
            dueOrder("turned twice", x, "6543210".substring(7 - n));
        }
    }

    // ---- texts

    private static void feed() {
        promise("feed", "int feed(long word, int n)");
        says("The n lowest bytes (1 .. 8) of a word, the lowest first, come to THE TAPE: how many there are.");
        PlayedBack x = new PlayedBack();
        due("1", x.feed('(', 1), 1);
        due("the lowest first", x.feed('c' | '+' << 8 | '1' << 16 | (long) '!' << 24, 3), 4);
        due("the lowest alone", x.feed(0x29292a322b6d2b6cL, 1), 5);
        due("so it reads (c+1l", x.text(0), -14);
        due("all eight bytes, the highest, too", x.feed(0xff31313131313131L | 0x00ff000000000000L, 8), 8);
        due("four digits", x.text(0), -14);
        feed(x, "1");
        x.feed(0xffL, 1);
        due("a byte above 127", x.text(0), -11);
        x.feed('m' | '+' << 8 | '2' << 16 | '*' << 24 | (long) 'l' << 32 | (long) '+' << 40 | (long) 'c' << 48, 7);
        due("seven", x.text(0), 1);
        due("m+2*l+c", x.law(0, 1, 20, 7), 48);
        says("BEYOND.");
        due("0", x.feed(49, 0), BEYOND);
        due("9", x.feed(49, 9), BEYOND);
        due("-1", x.feed(49, -1), BEYOND);
        due("none came", x.count(8), 0);
        says("FULL.");
        long eight = 0x2b312b312b312b31L;
        for (int i = 1; i <= 6; i++) {
            due("eight more", x.feed(eight, 8), 8 * i);
        }
        due("3 more than 48", x.feed(eight, 3), FULL);
        due("BEYOND ahead of FULL", x.feed(eight, 9), BEYOND);
        due("50", x.feed(eight, 2), 50);
        due("51", x.feed(eight, 1), FULL);
        due("50 still", x.count(8), 50);
        due("it ends too early", x.text(0), -60);
    }

    private static void text() {
        promise("text", "int text(int use)");
        says("THE TAPE, which is empty then, is the TEXT of a USE (0, 1), in place of one ahead: 1.");
        PlayedBack x = new PlayedBack();
        x.feed('1', 1);
        due("use 1", x.text(1), 1);
        due("THE TAPE is empty", x.count(8), 0);
        due("it is the TEXT", x.law(1, 9, 9, 9), 1);
        due("the other USE has none", x.law(0, 3, 0, 0), 30);
        due("another", text(x, 1, "g-h"), 1);
        due("in place of the one ahead", x.law(1, 9, 2, 9), 7);
        due("g, h, r", text(new PlayedBack(), 1, "g+h*r"), 1);
        due("fifty bytes", text(new PlayedBack(), 1, "(((((g+h+r+1+2+3+4+5+6+7+8+9+1234+56+7+8+9)))))+77"), 1);
        says("BEYOND (THE TAPE stays).");
        x.feed('2', 1);
        due("use -1", x.text(-1), BEYOND);
        due("use 2", x.text(2), BEYOND);
        due("THE TAPE stays", x.count(8), 1);
        due("so it can be read", x.text(0), 1);
        says("-10 less the FAULT (no ERROR; the one ahead stays; THE TAPE is empty, too).");
        due("an empty one", x.text(1), -10);
        due("the one ahead stays", x.law(1, 9, 2, 9), 7);
        due("a wrong one", text(x, 1, "g+"), -12);
        due("THE TAPE is empty, too", x.count(8), 0);
        due("the one ahead stays, too", x.law(1, 9, 2, 9), 7);
        due("none of them is an ERROR", x.told(1) + x.told(2) + x.told(3) + x.told(4) + x.told(5), 2);
        due("c in CLAP", text(new PlayedBack(), 1, "c"), -10);
        textFaults();
    }

    private static void textFaults() {
        Object[][] faults = {
            {"c l", 1}, {" c", 0}, {"1<2<3", 3}, {"1<2=3", 3}, {"(1<2)<3", -1}, {"1|2&3=4+5*6", -1},
            {"12345", 4}, {"0000", -1}, {"00000", 4}, {"c1", 1}, {"cl", 1}, {"1c", 1}, {"()", 1}, {"(c", 2}, {"(c))", 3},
            {"c)", 1}, {"-c", 0}, {"+c", 0}, {"c--l", 2}, {"c!l", 1}, {"!", 1}, {"!!!!!c", -1}, {"!!!!!!c", 5},
            {"(((((c)))))", -1}, {"((((((c))))))", 5}, {"!(!(!c))", -1}, {"!(!(!(c)))", 5}, {"(!(!(!(c))))", 5},
            {"!c+!(!c)*!!c", -1}, {"(c)+(c)+(c)+(c)+(c)+(c)+(c)", -1}, {"!c&!c&!c&!c&!c&!c&!c", -1}, {"c&", 2}, {"|c", 0}, {"c||l", 2},
            {"g", 0}, {"c+h", 2}, {"C", 0}, {"c/l%m", -1}, {"c=l", -1}, {"c==l", 2}, {"c<l&l>m|m=1", -1}, {"c\u0000", 1},
            {"((((((", 5}, {"(((((", 5}, {"(((((!", 5}, {"c+l)-m", 3}, {"1+2<3+4>5", 7}, {"(1<2<3)", 4},
        };
        for (Object[] fault : faults) {
            int at = (Integer) fault[1];
            due("text " + fault[0], text(new PlayedBack(), 0, (String) fault[0]), at < 0 ? 1 : -10 - at);
        }
    }

    private static void law() {
        promise("law", "int law(int use, int a, int b, int c)");
        says("What a USE gives with its NAMES in order as a, b, c.");
        PlayedBack x = new PlayedBack();
        due("c*10", x.law(0, 4, 7, 9), 40);
        due("c*10 held", x.law(0, 10, 0, 0), 99);
        due("c*10 held at 0", x.law(0, -1, 0, 0), 0);
        due("100-g-h*5", x.law(1, 30, 4, 50), 50);
        due("100-g-h*5 held", x.law(1, 2000, 4, 50), -999);
        due("100-g-h*5 held above", x.law(1, -2000, 4, 50), 999);
        due("c*10 wraps", x.law(0, 429496730, 0, 0), 4);
        due("c, l, m", worth(0, "c*9+l*3+m", 1, 2, 3), 18);
        due("g, h, r", worth(1, "g*100+h*10+r", 1, 2, 3), 123);
        due("held at 99", worth(0, "100", 0, 0, 0), 99);
        due("held at 0", worth(0, "0-1", 0, 0, 0), 0);
        due("held at 999", worth(1, "1000", 0, 0, 0), 999);
        due("held at -999", worth(1, "0-1000", 0, 0, 0), -999);
        due("999", worth(1, "999", 0, 0, 0), 999);
        due("-999", worth(1, "0-999", 0, 0, 0), -999);
        laws();
        says("BEYOND.");
        due("use -1", x.law(-1, 0, 0, 0), BEYOND);
        due("use 2", x.law(2, 0, 0, 0), BEYOND);
    }

    private static void laws() {
        due("left first", worth(1, "9-3-2", 0, 0, 0), 4);
        due("left first, too", worth(1, "100/10/5", 0, 0, 0), 2);
        due("* ahead of +", worth(1, "1+2*3", 0, 0, 0), 7);
        due("+ ahead of <", worth(1, "1+2<4", 0, 0, 0), 1);
        due("< ahead of &", worth(1, "2&1<2", 0, 0, 0), 1);
        due("& ahead of |", worth(1, "1|0&0", 0, 0, 0), 1);
        due("( ) first", worth(1, "(1|0)&0", 0, 0, 0), 0);
        due("! first", worth(1, "!0*5", 0, 0, 0), 5);
        due("! of ( )", worth(1, "!(0*5)", 0, 0, 0), 1);
        due("! !", worth(1, "!!7", 0, 0, 0), 1);
        due("|", worth(1, "0|7", 0, 0, 0), 1);
        due("| of two", worth(1, "0|0", 0, 0, 0), 0);
        due("&", worth(1, "4&2", 0, 0, 0), 1);
        due("& of 1", worth(1, "1&1", 0, 0, 0), 1);
        due("& of 0 and 1", worth(1, "0&1", 0, 0, 0), 0);
        due("& of 1 and 0", worth(1, "1&0", 0, 0, 0), 0);
        due("| of 1 and 0", worth(1, "1|0", 0, 0, 0), 1);
        due("! of what is true", worth(1, "!7", 0, 0, 0), 0);
        due("=", worth(1, "7=7", 0, 0, 0), 1);
        due("= not", worth(1, "7=8", 0, 0, 0), 0);
        due(">", worth(1, "8>7", 0, 0, 0), 1);
        due("> not", worth(1, "7>7", 0, 0, 0), 0);
        due("< not", worth(1, "7<7", 0, 0, 0), 0);
        due("/ by 0", worth(1, "7/0", 0, 0, 0), 0);
        due("% by 0", worth(1, "7%0", 0, 0, 0), 0);
        due("/ is cut", worth(1, "g/h", -7, 2, 0), -3);
        due("% has the sign of what it is of", worth(1, "g%h", -7, 2, 0), -1);
        due("% by less than 0", worth(1, "g%h", 7, -2, 0), 1);
        due("the least int by -1", worth(1, "g/h", Integer.MIN_VALUE, -1, 0), -999);
        due("the least int % -1", worth(1, "g%h", Integer.MIN_VALUE, -1, 0), 0);
        due("* wraps", worth(1, "g*h", 65536, 65536, 0), 0);
        due("+ wraps", worth(1, "g+1<0", Integer.MAX_VALUE, 0, 0), 1);
        due("9999", worth(1, "9999-9990", 0, 0, 0), 9);
    }

    // ---- what would be

    private static String rowOf(PlayedBack x, boolean least) {
        StringBuilder s = new StringBuilder();
        for (int i = 0; i < x.count(0); i++) {
            s.append(least ? x.least(i) : x.fewest(i));
        }
        return s.toString();
    }

    private static void dueLeast(String what, PlayedBack x, int guessed, String row) {
        due(what, x.least(-1), guessed);
        page.due(what, rowOf(x, true), row);
    }

    private static void dueFewest(String what, PlayedBack x, int hands, String row) {
        due(what, x.fewest(-1), hands);
        page.due(what, rowOf(x, false), row);
    }

    private static void least() {
        promise("least", "int least(int what)");
        says("LEAST GUESSED: what -1 how much, 0 .. 6 the SCENE at that place.");
        PlayedBack x = new PlayedBack();
        x.scene(0, 0, 2, 0);
        x.scene(23, 1, 9, 0);
        x.scene(30, 2, 4, 0);
        dueLeast("CAUSES first", x, 0, "012");
        text(x, 0, "10-c*5");
        dueLeast("what lacks, 2 less, or with the SHOCK of the DEATH as much", x, 28, "102");
        x.become(2, 10);
        dueLeast("without the SHOCK of a DEATH", x, 23, "210");
        x.become(1, 26);
        dueLeast("with a greater SHOCK", x, 25, "021");
        x.become(1, 10);
        dueLeast("without any", x, 20, "210");
        dueOrder("THE ORDER is as it was", x, "210");
        due("the last of seven", starts(7).least(6), 6);
        due("how much of none", new PlayedBack().least(-1), 0);
        says("BEYOND.");
        due("what -2", x.least(-2), BEYOND);
        due("what 7", x.least(7), BEYOND);
        due("what 7 of seven", starts(7).least(7), BEYOND);
        says("NONE: no SCENE is given there.");
        due("place 3 of three", x.least(3), NONE);
        due("place 6 of three", x.least(6), NONE);
        due("place 0 of none", new PlayedBack().least(0), NONE);
    }

    private static void fewest() {
        promise("fewest", "int fewest(int what)");
        says("FEWEST HANDS: likewise.");
        PlayedBack x = starts(4);
        x.prop(0, 1, 0, 1);
        x.prop(1, 1, 1, 2);
        x.prop(3, 1, 2, 3);
        dueFewest("backwards, 2 has no PROP, and isn't first", x, 0, "2310");
        x.back(0);
        dueFewest("forwards", x, 0, "0123");
        x.prop(2, 1, 5, 5);
        dueFewest("one that fits nowhere", x, 1, "0132");
        dueOrder("THE ORDER is as it was", x, "3210");
        due("the last of seven", starts(7).fewest(6), 6);
        due("how many of none", new PlayedBack().fewest(-1), 0);
        PlayedBack y = starts(6);
        y.back(0);
        int[][] props = {{0, 0, 1}, {3, 4, 5}, {0, 1, 0}, {3, 5, 4}, {0, 1, 2}, {3, 0, 4}};
        for (int i = 0; i < props.length; i++) {
            y.prop(i, props[i][0], props[i][1], props[i][2]);
        }
        dueFewest("two PROPS", y, 0, "204513");
        y.prop(0, 4, 0, 1);
        due("one less", y.fewest(0), 0);
        due("the PROP of 2 and 4 is moved or not", y.fewest(-1), 1);
        says("BEYOND.");
        due("what -2", x.fewest(-2), BEYOND);
        due("what 7", x.fewest(7), BEYOND);
        says("NONE.");
        due("place 4 of four", x.fewest(4), NONE);
        due("place 0 of none", new PlayedBack().fewest(0), NONE);
    }

    private static void orders() {
        promise("orders", "int orders(int g)");
        says("ORDERS.");
        PlayedBack x = new PlayedBack();
        due("one order of none", x.orders(0), 1);
        x.scene(0, 0, 1, 0);
        x.scene(0, 1, 1, 0);
        x.scene(0, 3, 1, 0);
        int[][] want = {{0, 1}, {9, 1}, {10, 3}, {19, 3}, {20, 5}, {29, 5}, {30, 6}, {9999, 6}};
        for (int[] pair : want) {
            due("up to " + pair[0], x.orders(pair[0]), pair[1]);
        }
        due("of seven", starts(7).orders(0), 5040);
        text(x, 0, "1");
        due("each as much", x.orders(2), 0);
        due("each as much, all", x.orders(3), 6);
        PlayedBack y = starts(5);
        y.scene(0, 1, 1, 0);
        y.scene(0, 2, 1, 0);
        due("with none lacking: a quarter", y.orders(9), 1260);
        due("with one lacking: three quarters", y.orders(10), 3780);
        due("with both", y.orders(20), 5040);
        says("BEYOND.");
        due("-1", x.orders(-1), BEYOND);
        due("10000", x.orders(10000), BEYOND);
    }

    private static void mended() {
        promise("mended", "int mended(int scene, int v, int what)");
        says("MENDED: what 0 how many, 1 the set.");
        PlayedBack x = new PlayedBack();
        x.scene(0, 0, 1, 0);
        x.scene(0, 0, 1, 0);
        x.scene(0, 3, 1, 0);
        x.scene(10, 3, 1, 0);
        x.scene(69, 3, 1, 0);
        due("as it is", x.mended(2, 1, 0), 0);
        due("as it is, the set", x.mended(2, 1, 1), 0);
        due("one", x.mended(2, 0, 0), 1);
        due("the least of two", x.mended(2, 0, 1), 1);
        due("by both", x.mended(3, 0, 0), 2);
        due("both", x.mended(3, 0, 1), 3);
        due("itself", x.mended(1, 0, 1), 2);
        due("as it is, whatever else fits", x.mended(1, 1, 1), 0);
        x.set(0, 6, 0);
        x.set(2, 6, 0);
        due("WILL of one with CAUSES isn't asked", x.mended(2, 1, 1), 1);
        due("nothing is changed", x.ofScene(0, 6), 0);
        mendedOfMore();
        says("BEYOND.");
        due("no such SCENE", x.mended(5, 0, 0), BEYOND);
        due("SCENE -1", x.mended(-1, 0, 0), BEYOND);
        due("v -1", x.mended(0, -1, 0), BEYOND);
        due("v 2", x.mended(0, 2, 0), BEYOND);
        due("what -1", x.mended(0, 0, -1), BEYOND);
        due("what 2", x.mended(0, 0, 2), BEYOND);
        due("what 2 where there is none", x.mended(4, 0, 2), BEYOND);
        says("NONE: by none.");
        due("by none", x.mended(4, 0, 0), NONE);
        due("by none, the set", x.mended(4, 0, 1), NONE);
    }

    private static void mendedOfMore() {
        PlayedBack y = starts(3);
        due("the last alone", y.mended(2, 0, 1), 4);
        y.scene(10, 7, 1, 0);
        due("all that there are", y.mended(3, 0, 1), 7);
        due("one alone", starts(1).mended(0, 0, 1), 1);
        PlayedBack z = starts(3);
        for (int i = 0; i < 3; i++) {
            z.set(i, 6, 0);
        }
        z.scene(0, 3, 1, 0);
        z.scene(10, 12, 1, 0);
        due("one is fewer than two", z.mended(4, 1, 0), 1);
        due("one, though the set of two is less", z.mended(4, 1, 1), 4);
    }

    private static PlayedBack mystery() {
        PlayedBack x = new PlayedBack();
        x.scene(0, 0, 1, 0);
        x.scene(0, 0, 1, 0);
        x.scene(10, 3, 1, 0);
        x.scene(0, 3, 1, 0);
        return x;
    }

    private static void thought() {
        promise("thought", "int thought(int place)");
        says("THOUGHT.");
        PlayedBack x = mystery();
        due("at first", x.thought(0), 4);
        due("all of both", x.thought(1), 1);
        due("then", x.thought(4), 1);
        x.place(2, 0);
        due("any of both", x.thought(1), 3);
        due("then all", x.thought(2), 1);
        x.set(0, 6, 0);
        due("not all, but any", x.thought(2), 2);
        due("none at all", new PlayedBack().thought(0), 1);
        says("BEYOND.");
        due("place -1", x.thought(-1), BEYOND);
        due("place 5", x.thought(5), BEYOND);
        due("place 1 of none", new PlayedBack().thought(1), BEYOND);
    }

    private static void sure() {
        promise("sure", "int sure()");
        says("SURE.");
        PlayedBack x = mystery();
        due("at the first SCENE", x.sure(), 1);
        x.place(2, 0);
        due("at the second", x.sure(), 2);
        x.set(0, 6, 0);
        due("not ahead of the starts", x.sure(), 3);
        due("none at all", new PlayedBack().sure(), 0);
        says("NONE: at no place.");
        // Behind the last place all SCENES without CAUSES were given, so there just one is left.
        for (int n = 1; n <= 7; n++) {
            due("by all of " + n, starts(n).sure(), n);
            due("so that is never told", starts(n).thought(n), 1);
        }
    }

    private static void explained() {
        promise("explained", "int explained(int scene, int set)");
        says("EXPLAINED.");
        PlayedBack x = new PlayedBack();
        x.scene(0, 0, 1, 0);
        x.scene(0, 0, 1, 0);
        x.scene(11, 3, 1, 0);
        x.scene(0, 4, 1, 0);
        due("by all", x.explained(2, 15), 0);
        due("by odd ones", x.explained(2, 3), 2);
        due("one without CAUSES", x.explained(0, 15), 0);
        x.set(1, 6, 0);
        due("of one: LETTER", x.explained(2, 13), 1);
        due("of one: SCENE", x.explained(2, 1), 0);
        x.set(0, 6, 0);
        due("of none: DEATH", x.explained(2, 12), 3);
        due("it stays a LETTER", x.ofScene(2, 0), 1);
        x.set(0, 6, 1);
        x.set(1, 6, 1);
        x.become(2, 19);
        due("with its m: MURDER isn't asked ahead of SCENE", x.explained(2, 15), 0);
        x.become(2, 1);
        due("as it is", x.explained(3, 15), 0);
        x.set(0, 6, 0);
        x.set(1, 6, 0);
        x.become(2, 35);
        due("DEATH ahead of FARCE", x.explained(2, 12), 3);
        says("BEYOND.");
        due("no such SCENE", x.explained(4, 0), BEYOND);
        due("SCENE -1", x.explained(-1, 0), BEYOND);
        due("set -1", x.explained(0, -1), BEYOND);
        due("set 16", x.explained(0, 16), BEYOND);
        says("NONE: by none.");
        x.set(0, 6, 1);
        x.set(1, 6, 1);
        due("the last one can't lack", x.explained(2, 7), NONE);
        due("one without CAUSES can't change", x.explained(0, 14), NONE);
    }

    // ---- evenings

    private static void evenings() {
        promise("evenings", "int evenings(int n)");
        says("n (1 to 200) EVENINGS: TAKINGS then.");
        PlayedBack x = starts(2);
        due("one", x.evenings(1), 100);
        due("two more", x.evenings(2), 300);
        due("EVENINGS", x.count(6), 3);
        text(x, 1, "999");
        due("held", x.evenings(200), 99999);
        text(x, 1, "0-999");
        due("and less then", x.evenings(1), 99000);
        due("held below", x.evenings(200), -99999);
        x.evenings(200);
        due("held still", x.count(5), -99999);
        PlayedBack y = new PlayedBack();
        y.scene(30, 0, 1, 1);
        y.scene(0, 1, 1, 1);
        y.prop(0, 0, 0, 1);
        y.prop(1, 0, 1, 2);
        text(y, 1, "g*9+h*20+r*100");
        due("GUESSED, HANDS, RISES", y.evenings(1), 90);
        y.turn();
        due("the other way", y.evenings(1), 90 + 120);
        says("BEYOND.");
        due("0", x.evenings(0), BEYOND);
        due("201", x.evenings(201), BEYOND);
        due("-1", x.evenings(-1), BEYOND);
        says("STATE: EVENINGS would be above 9999.");
        text(x, 1, "0");
        for (int i = 0; i < 46; i++) {
            x.evenings(200);
        }
        due("9804", x.count(6), 9804);
        due("10004", x.evenings(200), STATE);
        due("10000", x.evenings(196), STATE);
        due("BEYOND ahead of STATE", x.evenings(201), BEYOND);
        due("9999", x.evenings(195), -99999);
        due("EVENINGS then", x.count(6), 9999);
        due("one more", x.evenings(1), STATE);
    }

    private static void loose() {
        promise("loose", "int loose(int n)");
        says("n (1 to 200) EVENINGS by draws: likewise.");
        PlayedBack x = new PlayedBack();
        due("none on stage", x.loose(2), 200);
        due("no draw", x.count(11), 1);
        x.scene(0, 0, 1, 0);
        due("one on stage", x.loose(1), 300);
        due("no draw, still", x.count(11), 1);
        x.scene(0, 1, 1, 0);
        due("two on stage: they change ahead of it", x.loose(1), 400);
        due("a draw", x.count(11), 1 * 1103515245 + 12345);
        dueOrder("changed", x, "01");
        due("and back", x.loose(1), 490);
        dueOrder("changed back", x, "10");
        PlayedBack y = starts(5);
        y.seed(-77);
        int z = -77;
        String order = "43210";
        for (int i = 0; i < 20; i++) {
            y.loose(1);
            z = z * 1103515245 + 12345;
            int at = (z >>> 8) % 4;
            order = order.substring(0, at) + order.charAt(at + 1) + order.charAt(at) + order.substring(at + 2);
            dueOrder("draw " + i, y, order);
        }
        due("z then", y.count(11), z);
        due("EVENINGS then", y.count(6), 20);
        says("BEYOND.");
        due("0", x.loose(0), BEYOND);
        due("201", x.loose(201), BEYOND);
        due("-1", x.loose(-1), BEYOND);
        says("STATE.");
        x.evenings(194);
        for (int i = 0; i < 49; i++) {
            x.loose(200);
        }
        due("9999", x.count(6), 9999);
        int last = x.count(11);
        due("one more", x.loose(1), STATE);
        due("BEYOND ahead of STATE", x.loose(0), BEYOND);
        due("no draw", x.count(11), last);
    }

    // ---- draws, voices

    private static void seed() {
        promise("seed", "int seed(int v)");
        says("z becomes v: what it was (any number).");
        PlayedBack x = new PlayedBack();
        due("1 at first", x.seed(BEYOND), 1);
        due("any number", x.seed(Integer.MIN_VALUE), BEYOND);
        due("that is no ERROR", x.told(1), 0);
        due("the least int", x.seed(0), Integer.MIN_VALUE);
        due("0", x.count(11), 0);
    }

    private static void voice() {
        promise("voice", "int voice(int scene, int act, int x)");
        says("A VOICE of a SCENE: any number.");
        PlayedBack x = starts(2);
        x.scene(4, 0, 1, 0);
        int x7 = 7;
        int n = 2;
        int m = 4;
        int opens = x7 + n;
        int plays = opens * 2;
        int closes = x7 - m;
        dueVoices(x, opens, plays, closes, plays ^ closes);
        x.become(2, 14);
        int letterPlays = plays - (1 - m);
        dueVoices(x, opens, letterPlays, closes, letterPlays ^ closes);
        x.become(2, 24);
        int jokeOpens = opens * 3;
        int jokePlays = jokeOpens * 2;
        dueVoices(x, jokeOpens, jokePlays, closes, jokePlays ^ closes);
        x.become(2, 34);
        dueVoices(x, opens, plays, -closes, plays ^ -closes);
        x.become(2, 44);
        int secretPlays = (x7 + 1 + n) * 2 - (1 - m);
        dueVoices(x, opens, secretPlays, closes, secretPlays ^ closes);
        x.become(2, 54);
        dueVoices(x, jokeOpens, jokePlays, closes, (jokePlays ^ closes) - (2 + n) * 3);
        x.become(2, 64);
        int murderCloses = -closes ^ n;
        dueVoices(x, opens, plays, murderCloses, plays - (plays ^ murderCloses));
        x.become(2, 61);
        due("closes of a MURDER with -9", x.voice(2, 2, 10), -9 ^ 2);
        due("closes of a MURDER with -10", x.voice(2, 2, 11), -10 ^ 2);
        due("any number", x.voice(2, 0, BEYOND - 2), BEYOND);
        due("that is no ERROR", x.told(1), 0);
        due("round it goes", x.voice(2, 0, Integer.MAX_VALUE), Integer.MIN_VALUE + 1);
        says("BEYOND.");
        due("SCENE -1", x.voice(-1, 0, 0), BEYOND);
        due("SCENE 3", x.voice(3, 0, 0), BEYOND);
        due("act -1", x.voice(2, -1, 0), BEYOND);
        due("act 4", x.voice(2, 4, 0), BEYOND);
        due("no SCENE", new PlayedBack().voice(0, 0, 0), BEYOND);
    }

    private static void dueVoices(PlayedBack x, int opens, int plays, int closes, int tells) {
        String kind = "KIND " + x.ofScene(2, 0) + " ";
        due(kind + "opens", x.voice(2, 0, 7), opens);
        due(kind + "plays", x.voice(2, 1, 7), plays);
        due(kind + "closes", x.voice(2, 2, 7), closes);
        due(kind + "tells", x.voice(2, 3, 7), tells);
    }

    private static void trace() {
        promise("trace", "int trace(int i)");
        says("THE TRACE's i-th.");
        PlayedBack x = starts(1);
        int[][][] want = {
            {{10}, {11, 10}, {12}, {13, 11, 10, 12}},
            {{10}, {20, 11, 10, 12}, {12}, {13, 20, 11, 10, 12, 12}},
            {{30, 10}, {11, 30, 10}, {12}, {13, 11, 30, 10, 12}},
            {{10}, {11, 10}, {40, 12}, {13, 11, 10, 40, 12}},
            {{10}, {50, 20, 11, 10, 12}, {12}, {13, 50, 20, 11, 10, 12, 12}},
            {{30, 10}, {11, 30, 10}, {12}, {60, 13, 11, 30, 10, 12, 30, 10}},
            {{10}, {11, 10}, {70, 40, 12}, {71, 11, 10, 13, 11, 10, 70, 40, 12}},
        };
        for (int kind = 0; kind < 7; kind++) {
            x.become(0, kind * 10 + 5);
            for (int act = 0; act < 4; act++) {
                x.voice(0, act, 9);
                int[] bodies = want[kind][act];
                due("how many of " + kind + " " + act, x.count(10), bodies.length);
                for (int i = 0; i < bodies.length; i++) {
                    due("body " + i + " of " + kind + " " + act, x.trace(i), bodies[i]);
                }
                due("no more", x.trace(bodies.length), NONE);
            }
        }
        x.voice(1, 0, 0);
        due("an ERROR leaves it", x.count(10), 9);
        says("NONE: there is none such.");
        due("-1", x.trace(-1), NONE);
        due("9", x.trace(9), NONE);
        due("40", x.trace(40), NONE);
        due("0 ahead of any voice", new PlayedBack().trace(0), NONE);
    }

    // ---- sheets

    private static void sheet() {
        promise("sheet", "int sheet(int sheet, int bits, int n)");
        says("A SHEET has n numbers, all 0, of so many bits (8, 16, 32; 0: it is missing, n doesn't matter): 1.");
        PlayedBack x = new PlayedBack();
        due("n 40", x.sheet(0, 8, 40), 1);
        due("its last", x.put(0, 39, 1), 1);
        due("none behind", x.put(0, 40, 1), BEYOND);
        due("n 0", x.sheet(3, 32, 0), 1);
        due("it isn't missing", x.judge(3), -1);
        due("missing, n below 0", x.sheet(0, 0, -5), 1);
        due("it is missing", x.judge(0), NONE);
        due("missing, n above 40", x.sheet(3, 0, 41), 1);
        x.scene(0, 0, 1, 0);
        x.sheet(1, 16, 1);
        x.put(1, 0, 1);
        due("1", x.judge(1), -1);
        x.sheet(1, 16, 1);
        due("all 0 again", x.judge(1), 0);
        x.sheet(1, 32, 2);
        due("of the size", x.judge(1), 0);
        says("BEYOND.");
        due("-1", x.sheet(-1, 8, 1), BEYOND);
        due("4", x.sheet(4, 8, 1), BEYOND);
        due("bits 7", x.sheet(0, 7, 1), BEYOND);
        due("bits 64", x.sheet(0, 64, 1), BEYOND);
        due("bits -8", x.sheet(0, -8, 1), BEYOND);
        due("it is missing still", x.put(0, 0, 0), NONE);
        says("STATE: n is below 0 (ahead of BEYOND of n).");
        due("n below 0", x.sheet(0, 8, -1), STATE);
        due("the least n", x.sheet(0, 8, Integer.MIN_VALUE), STATE);
        due("n 41", x.sheet(0, 8, 41), BEYOND);
        due("SHEET 4 and n below 0", x.sheet(4, 8, -1), BEYOND);
        due("bits 64 and n below 0", x.sheet(0, 64, -1), BEYOND);
        due("it is missing still", x.put(0, 0, 0), NONE);
    }

    private static void put() {
        promise("put", "int put(int sheet, int i, int v)");
        says("Number i of a SHEET becomes v (its lowest bits): 1.");
        PlayedBack x = starts(1);
        int[] widths = {8, 16, 32};
        for (int width : widths) {
            x.sheet(1, width, 1);
            due("1", x.put(1, 0, 1), 1);
            due("it is so", x.judge(1), -1);
            x.put(1, 0, 257);
            due("257 in " + width, x.judge(1), width == 8 ? -1 : 0);
            x.put(1, 0, 65537);
            due("65537 in " + width, x.judge(1), width == 32 ? 0 : -1);
            x.put(1, 0, -1);
            due("-1 in " + width, x.judge(1), 0);
        }
        says("BEYOND: no such SHEET.");
        due("-1", x.put(-1, 0, 0), BEYOND);
        due("4", x.put(4, 0, 0), BEYOND);
        says("NONE: it is missing.");
        due("missing, ahead of the number", x.put(0, -1, 0), NONE);
        due("missing", x.put(0, 0, 0), NONE);
        says("BEYOND: no such number.");
        x.sheet(0, 8, 1);
        due("number -1", x.put(0, -1, 0), BEYOND);
        due("number 1", x.put(0, 1, 0), BEYOND);
    }

    private static void move() {
        promise("move", "int move(int sheet, int i, int other, int j, int n)");
        says("n numbers of a SHEET, from number i on, come to another one (or the same), from its number j on, "
                + "as they all were: n.");
        PlayedBack x = starts(6);
        x.sheet(0, 8, 6);
        x.sheet(1, 8, 3);
        x.sheet(2, 16, 6);
        for (int i = 0; i < 6; i++) {
            x.put(0, i, i);
        }
        due("three", x.move(0, 3, 1, 0, 3), 3);
        due("the row stays", x.order(0), 6);
        due("to the right within one", x.move(0, 0, 0, 1, 5), 5);
        due("0 twice", x.order(0), STATE);
        x.put(0, 0, 5);
        due("as they all were", x.order(0), 6);
        dueOrder("moved right", x, "501234");
        due("to the left within one", x.move(0, 1, 0, 0, 5), 5);
        x.put(0, 5, 5);
        x.order(0);
        dueOrder("moved left", x, "012345");
        x.move(1, 0, 0, 0, 3);
        x.put(0, 3, 0);
        x.put(0, 4, 1);
        x.put(0, 5, 2);
        x.order(0);
        dueOrder("from the other one", x, "345012");
        due("none at the end", x.move(0, 6, 1, 3, 0), 0);
        says("BEYOND: no such SHEET.");
        due("no such SHEET", x.move(-1, 0, 0, 0, 0), BEYOND);
        due("no such SHEET 4", x.move(0, 0, 4, 0, 0), BEYOND);
        due("no such SHEET, ahead of missing", x.move(3, 0, 4, 0, 0), BEYOND);
        says("NONE: one is missing.");
        due("one is missing", x.move(3, 0, 0, 0, -1), NONE);
        due("the other is missing", x.move(0, 0, 3, 0, -1), NONE);
        says("KIND: they are of unlike bits.");
        due("unlike bits", x.move(0, 0, 2, 0, -1), KIND);
        due("unlike bits, of none", x.move(2, 0, 0, 0, 0), KIND);
        says("BEYOND: n, i, or j is below 0, or they don't stand there.");
        due("n below 0", x.move(0, 0, 1, 0, -1), BEYOND);
        due("i below 0", x.move(0, -1, 1, 0, 0), BEYOND);
        due("j below 0", x.move(0, 0, 1, -1, 0), BEYOND);
        due("they don't stand here", x.move(0, 4, 1, 0, 3), BEYOND);
        due("they don't stand there", x.move(0, 0, 1, 1, 3), BEYOND);
        due("the greatest n", x.move(0, 1, 1, 1, Integer.MAX_VALUE), BEYOND);
        due("the greatest i", x.move(0, Integer.MAX_VALUE, 1, 0, 1), BEYOND);
        due("the greatest j", x.move(0, 0, 1, Integer.MAX_VALUE, 3), BEYOND);
        due("none behind the end", x.move(0, 7, 1, 3, 0), BEYOND);
        x.order(0);
        dueOrder("nothing came of them", x, "345012");
    }

    private static void order() {
        promise("order", "int order(int sheet)");
        says("Numbers of a SHEET become THE ORDER: how many SCENES.");
        PlayedBack x = starts(3);
        lay(x, 0, new int[] {1, 256, 2});
        due("by the lowest bits", x.order(0), 3);
        dueOrder("then", x, "102");
        PlayedBack none = new PlayedBack();
        lay(none, 0, new int[0]);
        due("of none", none.order(0), 0);
        says("BEYOND: no such SHEET.");
        due("-1", x.order(-1), BEYOND);
        due("4", x.order(4), BEYOND);
        says("NONE: it is missing.");
        due("missing", x.order(1), NONE);
        says("STATE: they aren't all SCENES, each once.");
        int[][] wrong = {{0, 1}, {0, 1, 2, 2}, {0, 1, 1}, {0, 1, 3}, {-1, 1, 2}, {}, {0, 1, 2, 3}, {0, 1, 34}};
        for (int[] row : wrong) {
            lay(x, 0, row);
            due("a row that isn't all, each once", x.order(0), STATE);
        }
        dueOrder("as it was", x, "102");
        lay(none, 0, new int[] {0});
        due("one too many", none.order(0), STATE);
    }

    private static void lay(PlayedBack x, int sheet, int[] row) {
        x.sheet(sheet, 8, row.length);
        for (int i = 0; i < row.length; i++) {
            x.put(sheet, i, row[i]);
        }
    }

    private static void dueJudged(PlayedBack x, int want, int... row) {
        lay(x, 1, row);
        due("a row of " + row.length, x.judge(1), want);
    }

    private static void judge() {
        promise("judge", "int judge(int sheet)");
        says("Numbers of a SHEET are COMES of SCENES 0, 1, ..: the first that isn't so");
        PlayedBack x = starts(3);
        x.set(1, 6, 0);
        dueJudged(x, 1, 1, 1, 1);
        dueJudged(x, 0, 0, 0, 1);
        dueJudged(x, 2, 1, 0, 0);
        dueJudged(x, 1, 1, 2, 1);
        says("(one that lacks, or is too many, too);");
        dueJudged(x, 2, 1, 0);
        dueJudged(x, 0);
        dueJudged(x, 1, 1, 1);
        dueJudged(x, 3, 1, 0, 1, 0);
        dueJudged(x, 3, 1, 0, 1, 1, 1);
        says("-1: all are.");
        dueJudged(x, -1, 1, 0, 1);
        PlayedBack none = new PlayedBack();
        dueJudged(none, -1);
        says("BEYOND: no such SHEET.");
        due("-1", x.judge(-1), BEYOND);
        due("4", x.judge(4), BEYOND);
        says("NONE: it is missing.");
        due("missing", x.judge(0), NONE);
    }

    // ---- images, what is told

    private static PlayedBack rich() {
        PlayedBack x = new PlayedBack();
        x.scene(30, 0, 4, 3);
        x.scene(25, 1, 6, 1);
        x.prop(0, 1, 0, 1);
        x.prop(1, 1, 5, 2);
        text(x, 0, "c*9");
        text(x, 1, "7");
        x.evenings(3);
        x.feed('c', 1);
        x.tell(5);
        return x;
    }

    private static void image() {
        promise("image", "int image()");
        says("All (but SHEETS, THE TRACE, what told() tells, and how often this was done) is kept as an IMAGE, in place of "
                + "one ahead: how often that was done.");
        PlayedBack x = rich();
        due("once", x.image(), 1);
        due("twice", x.image(), 2);
        x.restore();
        due("how often stays", x.image(), 3);
        x.back(0);
        due("in place of the one ahead", x.image(), 4);
        x.back(1);
        x.restore();
        due("the later one", x.count(4), 0);
        x.sheet(0, 8, 2);
        x.voice(0, 0, 0);
        x.trace(-1);
        x.restore();
        due("a SHEET that was made since", x.judge(0), 0);
        due("THE TRACE since", x.count(10), 1);
        due("what is told since", x.told(2), 1);
    }

    private static void restore() {
        promise("restore", "int restore()");
        says("All is as the IMAGE has it, which stays: EVENINGS.");
        PlayedBack x = rich();
        x.seed(99);
        x.image();
        int[] was = new int[12];
        for (int what = 0; what < 12; what++) {
            was[what] = x.count(what);
        }
        changeAll(x);
        due("EVENINGS", x.restore(), 3);
        for (int what = 0; what < 12; what++) {
            if (what != 10) {
                due("count(" + what + ")", x.count(what), was[what]);
            }
        }
        dueOrder("THE ORDER", x, "10");
        int[] first = {3, 0, 0, 4, 3, 1, 1, 1, 5, 0, 0};
        for (int what = 0; what < first.length; what++) {
            due("ofScene(0, " + what + ")", x.ofScene(0, what), first[what]);
        }
        due("GUESS", x.law(0, 3, 0, 0), 27);
        due("CLAP", x.law(1, 3, 0, 0), 7);
        due("what waits", x.check(), 1);
        due("THE TAPE", x.text(0), 1);
        due("it was c", x.law(0, 3, 0, 0), 3);
        x.evenings(1);
        due("it stays", x.restore(), 3);
        due("THE TAPE again", x.count(8), 1);
        restoredProps(x);
        says("NONE: there is none.");
        PlayedBack y = rich();
        due("none", y.restore(), NONE);
        due("an ERROR", y.told(2), 1);
    }

    private static void changeAll(PlayedBack x) {
        x.scene(0, 0, 9, 0);
        x.become(0, 29);
        x.set(0, 3, 9);
        x.set(0, 4, 1);
        x.set(0, 6, 0);
        x.prop(0, 0, 3, 3);
        x.back(0);
        x.turn();
        x.feed('+', 1);
        x.text(0);
        text(x, 0, "1");
        text(x, 1, "2");
        x.loose(5);
        x.tell(1);
        x.tell(2);
        x.voice(0, 3, 1);
        x.sheet(0, 8, 2);
    }

    private static void restoredProps(PlayedBack x) {
        x.prop(1, 1, 5, 0);
        x.prop(0, 1, 0, 5);
        due("moved no more", x.count(2), 0);
        x.image();
        x.prop(1, 1, 4, 0);
        x.restore();
        due("where it is taken", x.count(2), 0);
        x.prop(0, 1, 0, 4);
        x.restore();
        due("where it is left", x.count(2), 0);
    }

    private static void tell() {
        promise("tell", "int tell(int v)");
        says("One more number waits: how many.");
        PlayedBack x = new PlayedBack();
        for (int i = 1; i <= 20; i++) {
            due("so many", x.tell(Integer.MIN_VALUE), i);
        }
        says("FULL: 20 wait.");
        due("21", x.tell(0), FULL);
        due("20 still", x.count(9), 20);
        x.check();
        due("none wait then", x.tell(0), 1);
    }

    private static void check() {
        promise("check", "int check()");
        says("The numbers that wait (none do then) are GUESSES at places 0, 1, ..: 0;");
        PlayedBack x = new PlayedBack();
        due("none", x.check(), 0);
        x.scene(0, 0, 1, 0);
        x.scene(24, 1, 1, 0);
        x.tell(14);
        due("the first is so", x.check(), 0);
        due("none wait", x.count(9), 0);
        x.tell(14);
        x.tell(0);
        due("both are so", x.check(), 0);
        says("else 1 and the place (from 0) of the first that isn't so");
        x.tell(14);
        x.tell(1);
        due("the second isn't", x.check(), 2);
        due("none wait then, too", x.count(9), 0);
        x.tell(13);
        x.tell(0);
        due("the first isn't", x.check(), 1);
        says("(beyond the last SCENE, too).");
        x.tell(14);
        x.tell(0);
        x.tell(0);
        due("too many", x.check(), 3);
        PlayedBack none = new PlayedBack();
        none.tell(0);
        due("beyond the last of none", none.check(), 1);
    }

    private static void count() {
        promise("count", "int count(int what)");
        says("0 SCENES, 1 GUESSED, 2 HANDS, 3 RISES, 4 BACK, 5 TAKINGS, 6 EVENINGS, 7 LONG of all together, "
                + "8 bytes of THE TAPE, 9 numbers that wait, 10 BODIES in THE TRACE, 11 z (any number).");
        PlayedBack x = rich();
        due("SCENES", x.count(0), 2);
        due("GUESSED", x.count(1), 14);
        due("HANDS: 1 ends at 5, 0 begins at 1", x.count(2), 1);
        due("RISES: 0 is given last", x.count(3), 0);
        due("BACK", x.count(4), 1);
        due("TAKINGS", x.count(5), 21);
        due("EVENINGS", x.count(6), 3);
        due("LONG", x.count(7), 10);
        due("bytes", x.count(8), 1);
        due("what waits", x.count(9), 1);
        x.voice(0, 3, 1);
        due("BODIES", x.count(10), 5);
        due("z", x.count(11), 1);
        x.seed(BEYOND);
        due("z, any number", x.count(11), BEYOND);
        due("no ERROR", x.told(1), 0);
        countRises(x);
        says("BEYOND.");
        due("-1", x.count(-1), BEYOND);
        due("12", x.count(12), BEYOND);
    }

    private static void countRises(PlayedBack x) {
        x.turn();
        due("RISES: 1 is given behind the DEATH of 0", x.count(3), 1);
        x.scene(0, 0, 1, 3);
        x.place(2, 2);
        due("RISES: in two places, the other ACTOR lives", x.count(3), 2);
        x.scene(30, 0, 1, 1);
        x.place(3, 0);
        due("RISES: killed twice is one ACTOR still", x.count(3), 3);
        x.set(0, 4, 2);
        due("RISES: of two ACTORS", x.count(3), 3);
        x.set(0, 6, 0);
        due("RISES: the one that doesn't come kills nobody", x.count(3), 2);
    }

    private static void told() {
        promise("told", "int told(int k)");
        says("How many acts have answered an ERROR LOW - k (k 1 .. 5);");
        PlayedBack x = new PlayedBack();
        for (int k = 1; k <= 5; k++) {
            due("none of " + k, x.told(k), 0);
        }
        x.given(0);
        due("BEYOND", x.told(1), 1);
        x.flaw();
        x.flaw();
        due("NONE", x.told(2), 2);
        x.sheet(0, 8, -1);
        due("STATE", x.told(3), 1);
        for (int i = 0; i < 22; i++) {
            x.tell(0);
        }
        due("FULL", x.told(4), 2);
        x.scene(0, 0, 1, 0);
        x.as(0, 1);
        due("KIND", x.told(5), 1);
        text(x, 0, "?");
        due("a FAULT is no ERROR", x.told(1) + x.told(2), 3);
        x.image();
        x.flaw();
        x.restore();
        due("not of the IMAGE", x.told(2), 3);
        says("BEYOND: another k (counted, too).");
        due("0", x.told(0), BEYOND);
        due("6", x.told(6), BEYOND);
        due("-1", x.told(-1), BEYOND);
        due("those are counted, too", x.told(1), 4);
    }

    private static void notPromised() {
        page.titled("## Not promised");
        page.passes("How the state is held inside the object is free, as are the speed of each call, the text of toString and "
                + "the behaviour of equals and hashCode. Use of one object from several threads at once is not promised to be "
                + "safe. Nothing is promised beyond the answers and state changes described above, and nothing about an object "
                + "after its 512th call.");
    }
}
