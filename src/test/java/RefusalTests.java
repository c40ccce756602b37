import java.nio.charset.StandardCharsets;
import java.util.ArrayList;
import java.util.List;

/**
 * Every refused call: the ERROR that it answers, the order in which several are asked, what told() tells then,
 * and that nothing else is changed. Each is made on one of two objects that are made alike; then both must
 * look alike, in all that can be asked of them. Calls that are taken just at the edge stand beside them: of
 * these told() tells nothing.
 */
public final class RefusalTests {
    private static final int LOW = -1000000000;
    private static final int BEYOND = LOW - 1;
    private static final int NONE = LOW - 2;
    private static final int STATE = LOW - 3;
    private static final int FULL = LOW - 4;
    private static final int KIND = LOW - 5;
    private static final int LEAST_INT = Integer.MIN_VALUE;
    private static final int GREATEST_INT = Integer.MAX_VALUE;

    private static int promise = 0;
    private static int passed = 0;
    private static int failed = 0;

    private interface Stage {
        PlayedBack set();
    }

    private interface Act {
        int on(PlayedBack x);
    }

    private interface ActWith {
        int on(PlayedBack x, int v);
    }

    public static void main(String[] args) {
        scenes();
        theOrder();
        texts();
        whatWouldBe();
        evenings();
        drawsAndVoices();
        sheets();
        rowsOfSheets();
        images();
        System.out.println(passed + " passed, " + failed + " failed");
        if (failed != 0) {
            System.exit(1);
        }
    }

    private static void holds(String what, boolean is) {
        if (is) {
            passed++;
        } else {
            failed++;
            System.out.println("promise " + promise + ": " + what);
        }
    }

    // ---- what is asked of a call

    private static void refused(String call, int error, Stage stage, Act act) {
        PlayedBack x = stage.set();
        int answer = act.on(x);
        holds(call + " answered " + answer + ", due is " + error, answer == error);
        asIfOnlyTold(call, LOW - error, x, stage.set());
    }

    /** k 0: not even told() tells of it. */
    private static void asIfOnlyTold(String call, int k, PlayedBack x, PlayedBack like) {
        holds(call + " is told so", toldMore(x, like, k));
        List<String> rows = look(x);
        List<String> due = look(like);
        String unlike = "";
        for (int i = 0; i < due.size() && unlike.isEmpty(); i++) {
            boolean same = i < rows.size() && rows.get(i).equals(due.get(i));
            unlike = same ? "" : (i < rows.size() ? rows.get(i) : "nothing") + " for " + due.get(i);
        }
        holds(call + " changed something: " + unlike, unlike.isEmpty() && rows.size() == due.size());
    }

    private static boolean toldMore(PlayedBack x, PlayedBack like, int k) {
        boolean is = true;
        for (int i = 1; i <= 5; i++) {
            is &= x.told(i) == like.told(i) + (i == k ? 1 : 0);
        }
        return is;
    }

    private static void taken(String call, int want, Stage stage, Act act) {
        PlayedBack x = stage.set();
        int answer = act.on(x);
        holds(call + " answered " + answer + ", due is " + want, answer == want);
        holds(call + " is told as an ERROR", toldMore(x, stage.set(), 0));
    }

    /** The number below, the number above, and the farthest ones. */
    private static void outside(String call, int least, int greatest, Stage stage, ActWith act) {
        for (int v : new int[] {least - 1, greatest + 1, LEAST_INT, GREATEST_INT}) {
            refused(call.replace("?", String.valueOf(v)), BEYOND, stage, x -> act.on(x, v));
        }
    }

    // ---- what all can be asked

    private static final class Rows {
        private final List<String> rows = new ArrayList<>();

        void add(String call, long answer) {
            rows.add(call + " = " + answer);
        }
    }

    private static List<String> look(PlayedBack x) {
        Rows rows = new Rows();
        lookAtPlay(x, rows);
        lookAtWhatWouldBe(x, rows);
        for (int i = 0; i < x.count(10); i++) {
            rows.add("trace(" + i + ")", x.trace(i));
        }
        lookAtSheets(x, rows);
        lookAtWhatWaits(x, rows);
        rows.add("restore()", x.restore());
        lookAtPlay(x, rows);
        lookAtWhatWaits(x, rows);
        rows.add("image()", x.image());
        return rows.rows;
    }

    private static void lookAtPlay(PlayedBack x, Rows rows) {
        for (int what = 0; what <= 11; what++) {
            rows.add("count(" + what + ")", x.count(what));
        }
        for (int i = 0; i < x.count(0); i++) {
            rows.add("given(" + i + ")", x.given(i));
            for (int what = 0; what <= 6; what++) {
                rows.add("ofScene(" + i + ", " + what + ")", x.ofScene(i, what));
            }
        }
        rows.add("law(0, 1, 2, 3)", x.law(0, 1, 2, 3));
        rows.add("law(1, 1, 2, 3)", x.law(1, 1, 2, 3));
    }

    private static void lookAtWhatWouldBe(PlayedBack x, Rows rows) {
        rows.add("comes()", x.comes());
        rows.add("fewest(-1)", x.fewest(-1));
        rows.add("least(-1)", x.least(-1));
        rows.add("orders(60)", x.orders(60));
        rows.add("sure()", x.sure());
        for (int i = 0; i < x.count(0); i++) {
            rows.add("fewest(" + i + ")", x.fewest(i));
            rows.add("guess(" + i + ")", x.guess(i));
            rows.add("thought(" + i + ")", x.thought(i));
            for (int what = 7; what <= 10; what++) {
                rows.add("ofScene(" + i + ", " + what + ")", x.ofScene(i, what));
            }
        }
    }

    /** Which are missing, how many numbers, which of them are of like bits, and, where one is an order, the numbers. */
    private static void lookAtSheets(PlayedBack x, Rows rows) {
        for (int sheet = 0; sheet < 4; sheet++) {
            int n = 0;
            for (int step = 32; step > 0; step /= 2) {
                n += x.move(sheet, n + step, sheet, n + step, 0) == 0 ? step : 0;
            }
            rows.add("size of " + sheet, n);
            rows.add("judge(" + sheet + ")", x.judge(sheet));
            for (int other = 0; other < 4; other++) {
                rows.add("move(" + sheet + ", 0, " + other + ", 0, 0)", x.move(sheet, 0, other, 0, 0));
            }
            rows.add("order(" + sheet + ")", x.order(sheet));
            for (int i = 0; i < x.count(0); i++) {
                rows.add("given(" + i + ") by " + sheet, x.given(i));
            }
        }
    }

    private static void lookAtWhatWaits(PlayedBack x, Rows rows) {
        rows.add("check()", x.check());
        rows.add("feed('2', 1)", x.feed('2', 1));
        rows.add("text(0)", x.text(0));
        rows.add("law(0, 5, 6, 7)", x.law(0, 5, 6, 7));
    }

    // ---- the stages

    private static void feed(PlayedBack x, String text) {
        for (byte b : text.getBytes(StandardCharsets.ISO_8859_1)) {
            x.feed(b, 1);
        }
    }

    private static void text(PlayedBack x, int use, String text) {
        feed(x, text);
        x.text(use);
    }

    private static void lay(PlayedBack x, int sheet, int bits, int... row) {
        x.sheet(sheet, bits, row.length);
        for (int i = 0; i < row.length; i++) {
            x.put(sheet, i, row[i]);
        }
    }

    private static PlayedBack opened(int scenes) {
        int[][] all = {
            {33, 0, 4, 3}, {25, 1, 6, 5}, {0, 0, 1, 2}, {46, 7, 30, 1}, {52, 10, 2, 63}, {17, 12, 9, 0}, {64, 48, 7, 48},
        };
        PlayedBack x = new PlayedBack();
        for (int i = 0; i < scenes; i++) {
            x.scene(all[i][0], all[i][1], all[i][2], all[i][3]);
        }
        return x;
    }

    /** As much as a call could change, so that a look would see it; the IMAGE is of something else. */
    private static PlayedBack decked(int scenes) {
        PlayedBack x = opened(scenes);
        text(x, 0, "c*9+m");
        text(x, 1, "120-g-h*7-r");
        x.prop(0, 0, 1, 2);
        x.prop(1, 0, 3, 5);
        x.prop(2, 1, 0, 4);
        x.tell(x.guess(0));
        feed(x, "m+");
        x.evenings(3);
        x.image();
        x.image();
        x.prop(1, 0, 2, 5);
        x.set(2, 6, 0);
        x.place(0, 1);
        x.back(0);
        x.seed(77);
        x.loose(2);
        text(x, 0, "9+l%5");
        feed(x, "l+");
        x.check();
        x.tell(x.guess(0));
        x.tell(x.guess(1));
        x.tell(-1);
        x.voice(1, 3, 5);
        return x;
    }

    private static PlayedBack whole() {
        PlayedBack x = decked(7);
        lay(x, 0, 8, 3, 1, 0, 2, 6, 5, 4);
        lay(x, 1, 8, 0, 1, 2, 3, 4, 5, 6);
        lay(x, 2, 16, 6, 5, 4, 3, 2, 1, 0);
        return x;
    }

    private static PlayedBack few() {
        PlayedBack x = decked(3);
        lay(x, 0, 8, 2, 0, 1);
        lay(x, 1, 32, 1, 0, 2);
        lay(x, 3, 8, 1, 1, 0, 0, 0);
        return x;
    }

    /** All four stand. */
    private static PlayedBack allSheets() {
        PlayedBack x = whole();
        lay(x, 3, 32, 0, 2, 4, 6, 1, 3, 5);
        return x;
    }

    private static PlayedBack bare() {
        return new PlayedBack();
    }

    private static PlayedBack withWaiting(int n) {
        PlayedBack x = few();
        for (int i = x.count(9); i < n; i++) {
            x.tell(i);
        }
        return x;
    }

    private static PlayedBack withBytes(int n) {
        PlayedBack x = few();
        for (int i = x.count(8); i < n; i++) {
            x.feed('+', 1);
        }
        return x;
    }

    private static PlayedBack withEvenings(int n) {
        PlayedBack x = few();
        while (x.count(6) < n) {
            x.evenings(Math.min(200, n - x.count(6)));
        }
        return x;
    }

    // ---- scenes

    private static void scenes() {
        promise = 2;
        outside("scene(?, 0, 1, 0)", 0, 69, RefusalTests::few, (x, v) -> x.scene(v, 0, 1, 0));
        outside("scene(0, ?, 1, 0)", 0, 7, RefusalTests::few, (x, v) -> x.scene(0, v, 1, 0));
        outside("scene(0, ?, 1, 0) as the first", 0, 0, RefusalTests::bare, (x, v) -> x.scene(0, v, 1, 0));
        outside("scene(0, 0, ?, 0)", 1, 30, RefusalTests::few, (x, v) -> x.scene(0, 0, v, 0));
        outside("scene(0, 0, 1, ?)", 0, 63, RefusalTests::few, (x, v) -> x.scene(0, 0, 1, v));
        taken("scene(0, 0, 1, 0)", 3, RefusalTests::few, x -> x.scene(0, 0, 1, 0));
        taken("scene(69, 7, 30, 63)", 3, RefusalTests::few, x -> x.scene(69, 7, 30, 63));
        taken("the seventh", 6, () -> opened(6), x -> x.scene(69, 63, 30, 63));
        refused("an eighth", FULL, RefusalTests::whole, x -> x.scene(0, 0, 1, 0));
        refused("an eighth of all", FULL, RefusalTests::whole, x -> x.scene(69, 127, 30, 63));
        outside("an eighth, BEYOND ahead of FULL, of km ?", 0, 69, RefusalTests::whole, (x, v) -> x.scene(v, 0, 1, 0));
        outside("an eighth, BEYOND ahead of FULL, of CAUSES ?", 0, 127, RefusalTests::whole, (x, v) -> x.scene(0, v, 1, 0));
        outside("an eighth, BEYOND ahead of FULL, of LONG ?", 1, 30, RefusalTests::whole, (x, v) -> x.scene(0, 0, v, 0));
        outside("an eighth, BEYOND ahead of FULL, of CAST ?", 0, 63, RefusalTests::whole, (x, v) -> x.scene(0, 0, 1, v));
        props();
        promise = 4;
        outside("ofScene(?, 0)", 0, 6, RefusalTests::whole, (x, v) -> x.ofScene(v, 0));
        outside("ofScene(?, 10) of three", 0, 2, RefusalTests::few, (x, v) -> x.ofScene(v, 10));
        outside("ofScene(?, 9) of none", 0, -1, RefusalTests::bare, (x, v) -> x.ofScene(v, 9));
        outside("ofScene(6, ?)", 0, 10, RefusalTests::whole, (x, v) -> x.ofScene(6, v));
        taken("ofScene(0, 0)", 3, RefusalTests::whole, x -> x.ofScene(0, 0));
        taken("ofScene(6, 10)", 0, RefusalTests::whole, x -> x.ofScene(6, 10));
        promise = 5;
        outside("become(?, 0)", 0, 6, RefusalTests::whole, (x, v) -> x.become(v, 0));
        outside("become(?, 0) of none", 0, -1, RefusalTests::bare, (x, v) -> x.become(v, 0));
        outside("become(1, ?)", 0, 69, RefusalTests::whole, (x, v) -> x.become(1, v));
        taken("become(0, 0)", 3, RefusalTests::whole, x -> x.become(0, 0));
        taken("become(6, 69)", 6, RefusalTests::whole, x -> x.become(6, 69));
        asAKind();
        changes();
    }

    private static void props() {
        promise = 3;
        outside("prop(?, 0, 0, 0)", 0, 6, RefusalTests::whole, (x, v) -> x.prop(v, 0, 0, 0));
        outside("prop(?, 4, 0, 0)", 0, 2, RefusalTests::few, (x, v) -> x.prop(v, 4, 0, 0));
        outside("prop(?, 0, 0, 0) of none", 0, -1, RefusalTests::bare, (x, v) -> x.prop(v, 0, 0, 0));
        outside("prop(1, ?, 0, 0)", 0, 4, RefusalTests::whole, (x, v) -> x.prop(1, v, 0, 0));
        for (int prop = 0; prop <= 3; prop++) {
            int p = prop;
            outside("prop(1, " + p + ", ?, 5)", 0, 5, RefusalTests::whole, (x, v) -> x.prop(1, p, v, 5));
            outside("prop(1, " + p + ", 5, ?)", 0, 5, RefusalTests::whole, (x, v) -> x.prop(1, p, 5, v));
            taken("prop(0, " + p + ", 0, 5)", 1, RefusalTests::whole, x -> x.prop(0, p, 0, 5));
            taken("prop(6, " + p + ", 5, 0)", 1, RefusalTests::whole, x -> x.prop(6, p, 5, 0));
        }
        for (int spot : new int[] {-1, 6, LEAST_INT, GREATEST_INT}) {
            taken("prop(1, 4, " + spot + ", 0)", 1, RefusalTests::whole, x -> x.prop(1, 4, spot, 0));
            taken("prop(1, 4, 0, " + spot + ")", 1, RefusalTests::whole, x -> x.prop(1, 4, 0, spot));
        }
    }

    private static void asAKind() {
        promise = 6;
        outside("as(?, 0)", 0, 6, RefusalTests::whole, (x, v) -> x.as(v, 0));
        outside("as(?, 0) of none", 0, -1, RefusalTests::bare, (x, v) -> x.as(v, 0));
        outside("as(6, ?)", 0, 6, RefusalTests::whole, (x, v) -> x.as(6, v));
        outside("as(?, 1), BEYOND ahead of KIND", 0, 6, RefusalTests::whole, (x, v) -> x.as(v, 1));
        String[] not = {"123456", "23456", "13456", "12456", "2356", "1346", "1245"};
        for (int kind = 0; kind <= 6; kind++) {
            int km = kind * 10 + 9;
            Stage stage = () -> {
                PlayedBack x = whole();
                x.become(1, km);
                return x;
            };
            for (int other = 0; other <= 6; other++) {
                int o = other;
                if (not[kind].indexOf('0' + other) >= 0) {
                    refused("as " + other + " of " + kind, KIND, stage, x -> x.as(1, o));
                } else {
                    taken("as " + other + " of " + kind, 9, stage, x -> x.as(1, o));
                }
            }
        }
    }

    private static void changes() {
        promise = 7;
        outside("set(?, 3, 1)", 0, 6, RefusalTests::whole, (x, v) -> x.set(v, 3, 1));
        outside("set(?, 6, 0) of three", 0, 2, RefusalTests::few, (x, v) -> x.set(v, 6, 0));
        outside("set(?, 4, 0) of none", 0, -1, RefusalTests::bare, (x, v) -> x.set(v, 4, 0));
        for (int what : new int[] {LEAST_INT, -1, 0, 1, 2, 5, 7, 8, 9, 10, 11, GREATEST_INT}) {
            refused("set(1, " + what + ", 1)", BEYOND, RefusalTests::whole, x -> x.set(1, what, 1));
        }
        outside("set(1, 3, ?)", 1, 30, RefusalTests::whole, (x, v) -> x.set(1, 3, v));
        outside("set(1, 4, ?)", 0, 63, RefusalTests::whole, (x, v) -> x.set(1, 4, v));
        outside("set(2, 6, ?)", 0, 1, RefusalTests::whole, (x, v) -> x.set(2, 6, v));
        taken("set(6, 3, 1)", 7, RefusalTests::whole, x -> x.set(6, 3, 1));
        taken("set(0, 3, 30)", 4, RefusalTests::whole, x -> x.set(0, 3, 30));
        taken("set(6, 4, 0)", 48, RefusalTests::whole, x -> x.set(6, 4, 0));
        taken("set(0, 4, 63)", 3, RefusalTests::whole, x -> x.set(0, 4, 63));
        taken("set(2, 6, 0)", 0, RefusalTests::whole, x -> x.set(2, 6, 0));
        taken("set(3, 6, 1)", 1, RefusalTests::whole, x -> x.set(3, 6, 1));
    }

    // ---- the order

    private static void theOrder() {
        promise = 9;
        outside("given(?)", 0, 6, RefusalTests::whole, (x, v) -> x.given(v));
        outside("given(?) of three", 0, 2, RefusalTests::few, (x, v) -> x.given(v));
        outside("given(?) of none", 0, -1, RefusalTests::bare, (x, v) -> x.given(v));
        promise = 10;
        outside("place(?, 0)", 0, 6, RefusalTests::whole, (x, v) -> x.place(v, 0));
        outside("place(?, 0) of three", 0, 2, RefusalTests::few, (x, v) -> x.place(v, 0));
        outside("place(0, ?)", 0, 6, RefusalTests::whole, (x, v) -> x.place(0, v));
        outside("place(0, ?) of three", 0, 2, RefusalTests::few, (x, v) -> x.place(0, v));
        refused("place(0, 0) of none", BEYOND, RefusalTests::bare, x -> x.place(0, 0));
        promise = 11;
        outside("back(?)", 0, 1, RefusalTests::whole, (x, v) -> x.back(v));
        taken("back(0)", 0, RefusalTests::whole, x -> x.back(0));
        taken("back(1)", 0, RefusalTests::whole, x -> x.back(1));
        taken("back(0) at first", 1, RefusalTests::bare, x -> x.back(0));
        promise = 12;
        outside("guess(?)", 0, 6, RefusalTests::whole, (x, v) -> x.guess(v));
        outside("guess(?) of three", 0, 2, RefusalTests::few, (x, v) -> x.guess(v));
        outside("guess(?) of none", 0, -1, RefusalTests::bare, (x, v) -> x.guess(v));
        promise = 13;
        outside("understood(?)", 0, 6, RefusalTests::whole, (x, v) -> x.understood(v));
        outside("understood(?) of three", 0, 2, RefusalTests::few, (x, v) -> x.understood(v));
        outside("understood(?) of none", 0, -1, RefusalTests::bare, (x, v) -> x.understood(v));
        promise = 14;
        refused("flaw() of none", NONE, RefusalTests::bare, x -> x.flaw());
        Stage unbroken = () -> {
            PlayedBack x = whole();
            x.become(0, 0);
            return x;
        };
        refused("flaw() without one", NONE, unbroken, x -> x.flaw());
        PlayedBack like = whole();
        boolean broken = false;
        for (int i = 0; i < 7; i++) {
            broken |= like.ofScene(i, 10) == 1;
        }
        holds("the stage has a FLAW", broken && like.flaw() >= 0);
    }

    // ---- texts

    private static void texts() {
        promise = 16;
        outside("feed('1', ?)", 1, 8, RefusalTests::whole, (x, v) -> x.feed('1', v));
        taken("feed(-1, 1)", 3, RefusalTests::whole, x -> x.feed(-1L, 1));
        taken("feed(-1, 8)", 10, RefusalTests::whole, x -> x.feed(-1L, 8));
        for (int n = 1; n <= 8; n++) {
            int bytes = n;
            taken("the last " + n, 50, () -> withBytes(50 - bytes), x -> x.feed(-1L, bytes));
            refused("one more than the last " + (n - 1), FULL, () -> withBytes(51 - bytes), x -> x.feed(-1L, bytes));
        }
        outside("feed('1', ?) on a full TAPE, BEYOND ahead of FULL", 1, 8, () -> withBytes(50), (x, v) -> x.feed('1', v));
        promise = 17;
        outside("text(?)", 0, 1, RefusalTests::whole, (x, v) -> x.text(v));
        outside("text(?) of an empty TAPE", 0, 1, RefusalTests::bare, (x, v) -> x.text(v));
        for (int use = 0; use <= 1; use++) {
            faulty(use, "", 0);
            faulty(use, "x", 0);
            faulty(use, "1+", 2);
            faulty(use, "1<2<3", 3);
        }
        promise = 18;
        outside("law(?, 1, 1, 1)", 0, 1, RefusalTests::whole, (x, v) -> x.law(v, 1, 1, 1));
        taken("law(0, -1000000001, 0, 0)", 0, RefusalTests::bare, x -> x.law(0, BEYOND, 0, 0));
    }

    /** A FAULT is no ERROR; the TEXTS ahead stay, and THE TAPE is as if nothing had been fed. */
    private static void faulty(int use, String text, int fault) {
        PlayedBack x = emptied();
        feed(x, text);
        int answer = x.text(use);
        holds("text of " + text + " answered " + answer, answer == -10 - fault);
        asIfOnlyTold("text of " + text, 0, x, emptied());
    }

    private static PlayedBack emptied() {
        PlayedBack x = whole();
        x.feed('1', 1);
        x.text(0);
        return x;
    }

    // ---- what would be

    private static void whatWouldBe() {
        promise = 19;
        outside("least(?)", -1, 6, RefusalTests::whole, (x, v) -> x.least(v));
        outside("least(?) of three", -1, 6, RefusalTests::few, (x, v) -> x.least(v));
        promise = 20;
        outside("fewest(?)", -1, 6, RefusalTests::whole, (x, v) -> x.fewest(v));
        outside("fewest(?) of three", -1, 6, RefusalTests::few, (x, v) -> x.fewest(v));
        for (int scenes = 0; scenes < 7; scenes++) {
            int n = scenes;
            for (int what = n; what <= 6; what++) {
                int w = what;
                promise = 19;
                refused("least(" + w + ") of " + n, NONE, () -> opened(n), x -> x.least(w));
                promise = 20;
                refused("fewest(" + w + ") of " + n, NONE, () -> opened(n), x -> x.fewest(w));
            }
        }
        promise = 19;
        taken("least(-1) of none", 0, RefusalTests::bare, x -> x.least(-1));
        promise = 20;
        taken("fewest(-1) of none", 0, RefusalTests::bare, x -> x.fewest(-1));
        promise = 21;
        outside("orders(?)", 0, 9999, RefusalTests::whole, (x, v) -> x.orders(v));
        outside("orders(?) of none", 0, 9999, RefusalTests::bare, (x, v) -> x.orders(v));
        taken("orders(9999)", 5040, RefusalTests::whole, x -> x.orders(9999));
        taken("orders(0)", 0, RefusalTests::whole, x -> x.orders(0));
        mended();
        promise = 23;
        outside("thought(?)", 0, 7, RefusalTests::whole, (x, v) -> x.thought(v));
        outside("thought(?) of three", 0, 3, RefusalTests::few, (x, v) -> x.thought(v));
        outside("thought(?) of none", 0, 0, RefusalTests::bare, (x, v) -> x.thought(v));
        promise = 24;
        taken("sure() of none", 0, RefusalTests::bare, x -> x.sure());
        promise = 25;
        outside("explained(?, 0)", 0, 6, RefusalTests::whole, (x, v) -> x.explained(v, 0));
        outside("explained(?, 0) of none", 0, -1, RefusalTests::bare, (x, v) -> x.explained(v, 0));
        outside("explained(3, ?)", 0, 127, RefusalTests::whole, (x, v) -> x.explained(3, v));
        outside("explained(1, ?) of three", 0, 7, RefusalTests::few, (x, v) -> x.explained(1, v));
        outside("explained(?, 127), BEYOND ahead of NONE", 0, 6, RefusalTests::whole, (x, v) -> x.explained(v, 127));
        refused("explained(3, 127)", NONE, RefusalTests::whole, x -> x.explained(3, 127));
        refused("explained(3, 0)", NONE, RefusalTests::whole, x -> x.explained(3, 0));
    }

    private static void mended() {
        promise = 22;
        outside("mended(?, 0, 0)", 0, 6, RefusalTests::whole, (x, v) -> x.mended(v, 0, 0));
        outside("mended(?, 0, 0) of none", 0, -1, RefusalTests::bare, (x, v) -> x.mended(v, 0, 0));
        outside("mended(1, ?, 0)", 0, 1, RefusalTests::whole, (x, v) -> x.mended(1, v, 0));
        outside("mended(1, 0, ?)", 0, 1, RefusalTests::whole, (x, v) -> x.mended(1, 0, v));
        Stage fixed = () -> {
            PlayedBack x = whole();
            x.become(1, 69);
            return x;
        };
        taken("mended(1, 1, 1)", 0, fixed, x -> x.mended(1, 1, 1));
        refused("mended(1, 0, 0)", NONE, fixed, x -> x.mended(1, 0, 0));
        refused("mended(1, 0, 1)", NONE, fixed, x -> x.mended(1, 0, 1));
        refused("mended(1, 0, 2), BEYOND ahead of NONE", BEYOND, fixed, x -> x.mended(1, 0, 2));
        refused("mended(1, 0, -1), BEYOND ahead of NONE", BEYOND, fixed, x -> x.mended(1, 0, -1));
    }

    // ---- evenings

    private static void evenings() {
        promise = 26;
        outside("evenings(?)", 1, 200, RefusalTests::whole, (x, v) -> x.evenings(v));
        refused("evenings(1) behind 9999", STATE, () -> withEvenings(9999), x -> x.evenings(1));
        refused("evenings(200) behind 9800", STATE, () -> withEvenings(9800), x -> x.evenings(200));
        refused("evenings(2) behind 9998", STATE, () -> withEvenings(9998), x -> x.evenings(2));
        taken("evenings(1) behind 9998", 99999, () -> withEvenings(9998), x -> x.evenings(1));
        taken("evenings(199) behind 9800", 99999, () -> withEvenings(9800), x -> x.evenings(199));
        outside("evenings(?) behind 9999, BEYOND ahead of STATE", 1, 200, () -> withEvenings(9999), (x, v) -> x.evenings(v));
        promise = 27;
        outside("loose(?)", 1, 200, RefusalTests::whole, (x, v) -> x.loose(v));
        refused("loose(1) behind 9999", STATE, () -> withEvenings(9999), x -> x.loose(1));
        refused("loose(200) behind 9800", STATE, () -> withEvenings(9800), x -> x.loose(200));
        refused("loose(2) behind 9998", STATE, () -> withEvenings(9998), x -> x.loose(2));
        taken("loose(1) behind 9998", 99999, () -> withEvenings(9998), x -> x.loose(1));
        taken("loose(199) behind 9800", 99999, () -> withEvenings(9800), x -> x.loose(199));
        outside("loose(?) behind 9999, BEYOND ahead of STATE", 1, 200, () -> withEvenings(9999), (x, v) -> x.loose(v));
    }

    // ---- draws, voices

    private static void drawsAndVoices() {
        promise = 28;
        for (int z = BEYOND; z >= KIND; z--) {
            int v = z;
            Stage stage = () -> {
                PlayedBack x = whole();
                x.seed(v);
                return x;
            };
            taken("seed, with z like an ERROR", z, stage, x -> x.seed(0));
            promise = 40;
            taken("count(11), with z like an ERROR", z, stage, x -> x.count(11));
            promise = 29;
            taken("voice, with a number like an ERROR", z, RefusalTests::few, x -> x.voice(2, 0, v - 2));
            promise = 28;
        }
        promise = 29;
        outside("voice(?, 0, 1)", 0, 6, RefusalTests::whole, (x, v) -> x.voice(v, 0, 1));
        outside("voice(?, 3, 1) of none", 0, -1, RefusalTests::bare, (x, v) -> x.voice(v, 3, 1));
        outside("voice(1, ?, 1)", 0, 3, RefusalTests::whole, (x, v) -> x.voice(1, v, 1));
        promise = 30;
        int n = whole().count(10);
        for (int i : new int[] {-1, n, 39, 40, LEAST_INT, GREATEST_INT}) {
            refused("trace(" + i + ")", NONE, RefusalTests::whole, x -> x.trace(i));
        }
        for (int i : new int[] {-1, 0, LEAST_INT, GREATEST_INT}) {
            refused("trace(" + i + ") of none", NONE, RefusalTests::bare, x -> x.trace(i));
        }
        taken("trace(0)", 13, RefusalTests::whole, x -> x.trace(0));
        taken("the last of THE TRACE", 12, RefusalTests::whole, x -> x.trace(n - 1));
    }

    // ---- sheets

    private static void sheets() {
        promise = 31;
        for (int bits : new int[] {0, 8, 16, 32}) {
            outside("sheet(?, " + bits + ", 1)", 0, 3, RefusalTests::allSheets, (x, v) -> x.sheet(v, bits, 1));
            outside("sheet(?, " + bits + ", -1), BEYOND ahead of STATE", 0, 3, RefusalTests::allSheets, (x, v) -> x.sheet(v, bits, -1));
            taken("sheet(0, " + bits + ", 0)", 1, RefusalTests::allSheets, x -> x.sheet(0, bits, 0));
            taken("sheet(3, " + bits + ", 40)", 1, RefusalTests::allSheets, x -> x.sheet(3, bits, 40));
        }
        for (int bits : new int[] {LEAST_INT, -32, -16, -8, -1, 1, 7, 9, 15, 17, 24, 31, 33, 64, 256, GREATEST_INT}) {
            refused("bits " + bits, BEYOND, RefusalTests::allSheets, x -> x.sheet(1, bits, 1));
            refused("bits " + bits + ", BEYOND ahead of STATE", BEYOND, RefusalTests::allSheets, x -> x.sheet(1, bits, -1));
        }
        for (int bits : new int[] {8, 16, 32}) {
            refused("n -1", STATE, RefusalTests::allSheets, x -> x.sheet(1, bits, -1));
            refused("the least n", STATE, RefusalTests::allSheets, x -> x.sheet(1, bits, LEAST_INT));
            refused("n 41", BEYOND, RefusalTests::allSheets, x -> x.sheet(1, bits, 41));
            refused("the greatest n", BEYOND, RefusalTests::allSheets, x -> x.sheet(1, bits, GREATEST_INT));
        }
        for (int n : new int[] {LEAST_INT, -1, 41, GREATEST_INT}) {
            taken("missing, n " + n, 1, RefusalTests::allSheets, x -> x.sheet(2, 0, n));
        }
        promise = 32;
        outside("put(?, 0, 0)", 0, 3, RefusalTests::allSheets, (x, v) -> x.put(v, 0, 0));
        outside("put(?, -1, 0)", 0, 3, RefusalTests::allSheets, (x, v) -> x.put(v, -1, 0));
        outside("put(?, 0, 0), BEYOND ahead of NONE", 0, 3, RefusalTests::bare, (x, v) -> x.put(v, 0, 0));
        outside("put(1, ?, 0)", 0, 6, RefusalTests::whole, (x, v) -> x.put(1, v, 0));
        for (int i : new int[] {LEAST_INT, -1, 0, 39, 40, GREATEST_INT}) {
            refused("put(3, " + i + ", 0), NONE ahead of BEYOND of the number", NONE, RefusalTests::whole, x -> x.put(3, i, 0));
        }
        taken("put(0, 0, the least)", 1, RefusalTests::whole, x -> x.put(0, 0, LEAST_INT));
        taken("put(2, 6, the greatest)", 1, RefusalTests::whole, x -> x.put(2, 6, GREATEST_INT));
    }

    private static void rowsOfSheets() {
        promise = 33;
        outside("move(?, 0, 1, 0, 1)", 0, 3, RefusalTests::allSheets, (x, v) -> x.move(v, 0, 1, 0, 1));
        outside("move(1, 0, ?, 0, 1)", 0, 3, RefusalTests::allSheets, (x, v) -> x.move(1, 0, v, 0, 1));
        outside("move(?, 0, 3, 0, 1), BEYOND ahead of NONE", 0, 3, RefusalTests::whole, (x, v) -> x.move(v, 0, 3, 0, 1));
        outside("move(3, 0, ?, 0, 1), BEYOND ahead of NONE", 0, 3, RefusalTests::whole, (x, v) -> x.move(3, 0, v, 0, 1));
        refused("from a missing one", NONE, RefusalTests::whole, x -> x.move(3, 0, 0, 0, 1));
        refused("to a missing one", NONE, RefusalTests::whole, x -> x.move(0, 0, 3, 0, 1));
        refused("a missing one to itself", NONE, RefusalTests::whole, x -> x.move(3, 0, 3, 0, 0));
        refused("NONE ahead of BEYOND of n", NONE, RefusalTests::whole, x -> x.move(0, 0, 3, 0, -1));
        refused("NONE ahead of BEYOND of i", NONE, RefusalTests::whole, x -> x.move(3, -1, 0, 0, 1));
        refused("8 bits to 16", KIND, RefusalTests::whole, x -> x.move(0, 0, 2, 0, 1));
        refused("16 bits to 8", KIND, RefusalTests::whole, x -> x.move(2, 0, 0, 0, 1));
        refused("16 bits to 32", KIND, RefusalTests::allSheets, x -> x.move(2, 0, 3, 0, 0));
        refused("KIND ahead of BEYOND of n", KIND, RefusalTests::whole, x -> x.move(0, 0, 2, 0, -1));
        refused("KIND ahead of BEYOND of i", KIND, RefusalTests::whole, x -> x.move(0, -1, 2, 0, 1));
        refused("KIND ahead of BEYOND of j", KIND, RefusalTests::whole, x -> x.move(0, 0, 2, 7, 1));
        outside("move(0, 0, 1, 0, ?)", 0, 7, RefusalTests::whole, (x, v) -> x.move(0, 0, 1, 0, v));
        outside("move(0, ?, 1, 0, 1)", 0, 6, RefusalTests::whole, (x, v) -> x.move(0, v, 1, 0, 1));
        outside("move(0, ?, 1, 0, 0)", 0, 7, RefusalTests::whole, (x, v) -> x.move(0, v, 1, 0, 0));
        outside("move(0, 0, 1, ?, 1)", 0, 6, RefusalTests::whole, (x, v) -> x.move(0, 0, 1, v, 1));
        outside("move(0, 0, 1, ?, 0)", 0, 7, RefusalTests::whole, (x, v) -> x.move(0, 0, 1, v, 0));
        outside("move(0, ?, 0, 0, 3)", 0, 4, RefusalTests::whole, (x, v) -> x.move(0, v, 0, 0, 3));
        outside("move(0, 0, 0, ?, 3)", 0, 4, RefusalTests::whole, (x, v) -> x.move(0, 0, 0, v, 3));
        refused("i and n that wrap", BEYOND, RefusalTests::whole, x -> x.move(0, GREATEST_INT, 1, 0, GREATEST_INT));
        refused("j and n that wrap", BEYOND, RefusalTests::whole, x -> x.move(0, 0, 1, GREATEST_INT, GREATEST_INT));
        refused("i, j and n below 0", BEYOND, RefusalTests::whole, x -> x.move(0, -1, 1, -1, -1));
        taken("all", 7, RefusalTests::whole, x -> x.move(0, 0, 1, 0, 7));
        taken("none at both ends", 0, RefusalTests::whole, x -> x.move(0, 7, 1, 7, 0));
        taken("the last to the first", 1, RefusalTests::whole, x -> x.move(0, 6, 0, 0, 1));
        taken("the first to the last", 1, RefusalTests::whole, x -> x.move(0, 0, 0, 6, 1));
        promise = 34;
        outside("order(?)", 0, 3, RefusalTests::allSheets, (x, v) -> x.order(v));
        outside("order(?), BEYOND ahead of NONE", 0, 3, RefusalTests::bare, (x, v) -> x.order(v));
        refused("a missing one", NONE, RefusalTests::whole, x -> x.order(3));
        int[][] wrong = {{}, {0}, {0, 1}, {0, 1, 2, 3}, {0, 1, 2, 2}, {0, 1, 1}, {0, 0, 0}, {0, 1, 3}, {-1, 0, 1}, {1, 2, 3},
            {0, 1, 32}, {0, 1, 2, 0, 1, 2}};
        for (int[] row : wrong) {
            for (int bits : new int[] {8, 16, 32}) {
                refused("not all SCENES, each once", STATE, () -> laid(bits, row), x -> x.order(2));
            }
        }
        taken("all SCENES, each once", 3, () -> laid(32, 1, 2, 0), x -> x.order(2));
        promise = 35;
        outside("judge(?)", 0, 3, RefusalTests::allSheets, (x, v) -> x.judge(v));
        outside("judge(?), BEYOND ahead of NONE", 0, 3, RefusalTests::bare, (x, v) -> x.judge(v));
        refused("a missing one to judge", NONE, RefusalTests::whole, x -> x.judge(3));
    }

    private static PlayedBack laid(int bits, int... row) {
        PlayedBack x = few();
        lay(x, 2, bits, row);
        return x;
    }

    // ---- images, what is told

    private static void images() {
        promise = 37;
        refused("restore() without an IMAGE", NONE, RefusalTests::bare, x -> x.restore());
        refused("restore() of seven without an IMAGE", NONE, () -> opened(7), x -> x.restore());
        taken("restore()", 3, RefusalTests::whole, x -> x.restore());
        promise = 38;
        taken("the twentieth", 20, () -> withWaiting(19), x -> x.tell(0));
        refused("a twenty-first", FULL, () -> withWaiting(20), x -> x.tell(0));
        refused("a twenty-first like an ERROR", FULL, () -> withWaiting(20), x -> x.tell(BEYOND));
        promise = 39;
        taken("check() of twenty", 3, () -> withWaiting(20), x -> x.check());
        promise = 40;
        outside("count(?)", 0, 11, RefusalTests::whole, (x, v) -> x.count(v));
        taken("count(0)", 7, RefusalTests::whole, x -> x.count(0));
        promise = 41;
        outside("told(?)", 1, 5, RefusalTests::whole, (x, v) -> x.told(v));
        outside("told(?) at first", 1, 5, RefusalTests::bare, (x, v) -> x.told(v));
        for (int k = 1; k <= 5; k++) {
            int which = k;
            taken("told(" + k + ") at first", 0, RefusalTests::bare, x -> x.told(which));
        }
        toldOfEach();
    }

    private static void toldOfEach() {
        PlayedBack x = bare();
        x.scene(0, 0, 1, 0);
        for (int i = 0; i < 2; i++) {
            x.given(1);
        }
        for (int i = 0; i < 3; i++) {
            x.flaw();
        }
        for (int i = 0; i < 4; i++) {
            x.sheet(0, 8, -1);
        }
        for (int i = 0; i < 25; i++) {
            x.tell(0);
        }
        for (int i = 0; i < 6; i++) {
            x.as(0, 1);
        }
        for (int k = 1; k <= 5; k++) {
            holds("ERRORS LOW - " + k + " are told one by one", x.told(k) == k + 1);
        }
        x.told(0);
        x.told(6);
        holds("those of told() are counted, too", x.told(1) == 4);
    }
}
