/** A theatre that gives its plays backwards. ../shared/DOC.md says what each call does and answers. */
public final class PlayedBack {
    private static final int LOW = -1000000000;
    private static final int BEYOND = LOW - 1;
    private static final int NONE = LOW - 2;
    private static final int STATE = LOW - 3;
    private static final int FULL = LOW - 4;
    private static final int KIND = LOW - 5;
    private static final int ERRORS = 5;

    private static final int SCENE = 0;
    private static final int LETTER = 1;
    private static final int JOKE = 2;
    private static final int DEATH = 3;
    private static final int SECRET = 4;
    private static final int FARCE = 5;
    private static final int MURDER = 6;
    private static final int KINDS = 7;
    /** Which KIND each is under; -1 behind the last. */
    private static final int[] ABOVE = {-1, SCENE, SCENE, SCENE, LETTER, JOKE, DEATH};

    private static final int MOST_SCENES = 7;
    private static final int SETS = 1 << MOST_SCENES;
    private static final int CASTS = 64;
    private static final int LONGEST = 30;
    private static final int PROPS = 4;
    private static final int NO_PROP = 4;
    private static final int LAST_SPOT = 5;
    private static final int TAPE_BYTES = 50;
    private static final int MOST_OPEN = 5;
    private static final int MOST_WAITING = 20;
    private static final int MOST_TAKINGS = 99999;
    private static final int MOST_EVENINGS = 9999;
    private static final int EVENINGS_A_CALL = 200;
    private static final int MOST_GUESSED = 9999;
    private static final int SHEETS = 4;
    private static final int SHEET_NUMBERS = 40;
    private static final int TRACE_BODIES = 40;
    private static final int USES = 2;

    private final Play play;
    private final Play kept;
    private final Choices choices;
    private final Worlds worlds;
    private final Reader reader;
    private final Voices voices;
    private final Sheet[] sheets;
    private final int[] errors;
    private int images;

    public PlayedBack() {
        play = new Play();
        kept = new Play();
        choices = new Choices(play);
        worlds = new Worlds(play);
        reader = new Reader(play.tape);
        voices = new Voices();
        sheets = new Sheet[SHEETS];
        for (int i = 0; i < sheets.length; i++) {
            sheets[i] = new Sheet();
        }
        errors = new int[ERRORS];
    }

    // ---- scenes

    public int scene(int km, int causes, int takes, int cast) {
        if (!isKindAndM(km) || !isSet(causes) || !within(takes, 1, LONGEST) || !within(cast, 0, CASTS - 1)) {
            return wrong(BEYOND);
        }
        if (play.size >= MOST_SCENES) {
            return wrong(FULL);
        }
        return play.open(km, causes, takes, cast);
    }

    public int prop(int scene, int prop, int from, int to) {
        if (!stands(scene) || !within(prop, 0, NO_PROP)) {
            return wrong(BEYOND);
        }
        if (prop != NO_PROP && (!within(from, 0, LAST_SPOT) || !within(to, 0, LAST_SPOT))) {
            return wrong(BEYOND);
        }
        play.at(scene).carry(prop, from, to);
        return 1;
    }

    public int ofScene(int scene, int what) {
        if (!stands(scene) || !within(what, 0, 10)) {
            return wrong(BEYOND);
        }
        int happening = play.happening();
        switch (what) {
            case 7:
                return happening >> scene & 1;
            case 9:
                return leastOf(play.killedBy(scene, happening));
            case 10:
                return truth(play.isBroken(scene, happening));
            default:
                return play.at(scene).own(what);
        }
    }

    public int become(int scene, int km) {
        if (!stands(scene) || !isKindAndM(km)) {
            return wrong(BEYOND);
        }
        Scene changed = play.at(scene);
        int was = changed.kind;
        changed.kind = km / 10;
        changed.m = km % 10;
        return was;
    }

    public int as(int scene, int kind) {
        if (!stands(scene) || !within(kind, 0, KINDS - 1)) {
            return wrong(BEYOND);
        }
        if (!isUnder(play.at(scene).kind, kind)) {
            return wrong(KIND);
        }
        return play.at(scene).m;
    }

    public int set(int scene, int what, int v) {
        if (!stands(scene) || !Scene.mayHave(what, v)) {
            return wrong(BEYOND);
        }
        return play.at(scene).change(what, v);
    }

    public int comes() {
        return play.happening();
    }

    // ---- the order

    public int given(int place) {
        if (!isPlace(place)) {
            return wrong(BEYOND);
        }
        return play.row.at(place);
    }

    public int place(int scene, int place) {
        if (!stands(scene) || !isPlace(place)) {
            return wrong(BEYOND);
        }
        int was = play.row.find(scene);
        play.row.removeAt(was);
        play.row.insert(place, scene);
        return was;
    }

    public int back(int v) {
        if (!within(v, 0, 1)) {
            return wrong(BEYOND);
        }
        int was = play.backwards;
        play.backwards = v;
        return was;
    }

    public int guess(int place) {
        if (!isPlace(place)) {
            return wrong(BEYOND);
        }
        return play.guessAt(place);
    }

    public int understood(int scene) {
        if (!stands(scene)) {
            return wrong(BEYOND);
        }
        return play.understoodBy(scene);
    }

    public int flaw() {
        int place = play.firstBroken();
        return place < 0 ? wrong(NONE) : place;
    }

    public int turn() {
        play.row.reverse();
        return play.size;
    }

    // ---- texts

    public int feed(long word, int n) {
        if (!within(n, 1, 8)) {
            return wrong(BEYOND);
        }
        if (play.tape.size + n > TAPE_BYTES) {
            return wrong(FULL);
        }
        for (int i = 0; i < n; i++) {
            play.tape.add((int) (word >>> 8 * i & 255L));
        }
        return play.tape.size;
    }

    public int text(int use) {
        if (!isUse(use)) {
            return wrong(BEYOND);
        }
        int fault = reader.faultIn(use);
        play.tape.clear();
        if (fault >= 0) {
            return -10 - fault;
        }
        play.lawOf(use).code.copyFrom(reader.code);
        return 1;
    }

    public int law(int use, int a, int b, int c) {
        if (!isUse(use)) {
            return wrong(BEYOND);
        }
        return play.lawOf(use).gives(a, b, c);
    }

    // ---- what would be

    public int least(int what) {
        if (!within(what, -1, MOST_SCENES - 1)) {
            return wrong(BEYOND);
        }
        if (what >= play.size) {
            return wrong(NONE);
        }
        int guessed = choices.findLeastGuessed();
        return what < 0 ? guessed : choices.best.at(what);
    }

    public int fewest(int what) {
        if (!within(what, -1, MOST_SCENES - 1)) {
            return wrong(BEYOND);
        }
        if (what >= play.size) {
            return wrong(NONE);
        }
        int hands = choices.findFewestHands();
        return what < 0 ? hands : choices.best.at(what);
    }

    public int orders(int g) {
        if (!within(g, 0, MOST_GUESSED)) {
            return wrong(BEYOND);
        }
        return choices.howManyUpTo(g);
    }

    public int mended(int scene, int v, int what) {
        if (!stands(scene) || !within(v, 0, 1) || !within(what, 0, 1)) {
            return wrong(BEYOND);
        }
        int change = worlds.leastChange(scene, v);
        if (change < 0) {
            return wrong(NONE);
        }
        return what == 0 ? Integer.bitCount(change) : change;
    }

    public int thought(int place) {
        if (!within(place, 0, play.size)) {
            return wrong(BEYOND);
        }
        worlds.compare();
        return worlds.likeUpTo(place);
    }

    public int sure() {
        worlds.compare();
        for (int place = 0; place <= play.size; place++) {
            if (worlds.likeUpTo(place) == 1) {
                return place;
            }
        }
        return wrong(NONE);
    }

    public int explained(int scene, int set) {
        if (!stands(scene) || !isSet(set)) {
            return wrong(BEYOND);
        }
        int wills = play.wills();
        for (int kind = 0; kind < KINDS; kind++) {
            if (play.outcome(wills, scene, kind) == set) {
                return kind;
            }
        }
        return wrong(NONE);
    }

    // ---- evenings

    public int evenings(int n) {
        int error = errorOfEvenings(n);
        if (error != 0) {
            return wrong(error);
        }
        int clap = play.clap();
        for (int i = 0; i < n; i++) {
            play.giveEvening(clap);
        }
        return play.takings;
    }

    public int loose(int n) {
        int error = errorOfEvenings(n);
        if (error != 0) {
            return wrong(error);
        }
        for (int i = 0; i < n; i++) {
            play.loosen();
            play.giveEvening(play.clap());
        }
        return play.takings;
    }

    // ---- draws, voices, sheets, images, what is told

    public int seed(int v) {
        int was = play.z;
        play.z = v;
        return was;
    }

    public int voice(int scene, int act, int x) {
        if (!stands(scene) || !within(act, 0, Voices.ACTS - 1)) {
            return wrong(BEYOND);
        }
        return voices.begin(play.at(scene), act, x);
    }

    public int trace(int i) {
        if (!within(i, 0, voices.bodies.size - 1)) {
            return wrong(NONE);
        }
        return voices.bodies.at(i);
    }

    public int sheet(int sheet, int bits, int n) {
        if (!isSheet(sheet) || bits != 0 && bits != 8 && bits != 16 && bits != 32) {
            return wrong(BEYOND);
        }
        if (bits != 0 && n < 0) {
            return wrong(STATE);
        }
        if (bits != 0 && n > SHEET_NUMBERS) {
            return wrong(BEYOND);
        }
        sheetAt(sheet).lay(bits, n);
        return 1;
    }

    public int put(int sheet, int i, int v) {
        int error = errorOfSheet(sheet);
        if (error != 0) {
            return wrong(error);
        }
        if (!within(i, 0, sheetAt(sheet).numbers.size - 1)) {
            return wrong(BEYOND);
        }
        sheetAt(sheet).write(i, v);
        return 1;
    }

    public int move(int sheet, int i, int other, int j, int n) {
        if (!isSheet(sheet) || !isSheet(other)) {
            return wrong(BEYOND);
        }
        Sheet source = sheetAt(sheet);
        Sheet target = sheetAt(other);
        if (source.bits == 0 || target.bits == 0) {
            return wrong(NONE);
        }
        if (source.bits != target.bits) {
            return wrong(KIND);
        }
        if (!source.numbers.spans(i, n) || !target.numbers.spans(j, n)) {
            return wrong(BEYOND);
        }
        target.numbers.overwrite(j, source.numbers, i, n);
        return n;
    }

    public int order(int sheet) {
        int error = errorOfSheet(sheet);
        if (error != 0) {
            return wrong(error);
        }
        if (!play.isWholeOrder(sheetAt(sheet).numbers)) {
            return wrong(STATE);
        }
        play.row.copyFrom(sheetAt(sheet).numbers);
        return play.size;
    }

    public int judge(int sheet) {
        int error = errorOfSheet(sheet);
        if (error != 0) {
            return wrong(error);
        }
        Row numbers = sheetAt(sheet).numbers;
        int happening = play.happening();
        int both = Math.min(numbers.size, play.size);
        for (int i = 0; i < both; i++) {
            if (numbers.at(i) != (happening >> i & 1)) {
                return i;
            }
        }
        return numbers.size == play.size ? -1 : both;
    }

    public int image() {
        kept.copyFrom(play);
        images++;
        return images;
    }

    public int restore() {
        if (images == 0) {
            return wrong(NONE);
        }
        play.copyFrom(kept);
        return play.evenings;
    }

    public int tell(int v) {
        if (play.waiting.size >= MOST_WAITING) {
            return wrong(FULL);
        }
        play.waiting.add(v);
        return play.waiting.size;
    }

    public int check() {
        int wrongAt = play.firstWrongGuess();
        play.waiting.clear();
        return wrongAt + 1;
    }

    public int count(int what) {
        switch (what) {
            case 0:
                return play.size;
            case 1:
                return play.guessed();
            case 2:
                return play.hands();
            case 3:
                return play.rises();
            case 4:
                return play.backwards;
            case 5:
                return play.takings;
            case 6:
                return play.evenings;
            case 7:
                return play.minutes();
            case 8:
                return play.tape.size;
            case 9:
                return play.waiting.size;
            case 10:
                return voices.bodies.size;
            case 11:
                return play.z;
            default:
                return wrong(BEYOND);
        }
    }

    public int told(int k) {
        if (!within(k, 1, ERRORS)) {
            return wrong(BEYOND);
        }
        return errors[k - 1];
    }

    // ---- what the acts ask

    /** Every ERROR goes through here, so that told() knows of it. */
    private int wrong(int error) {
        int k = LOW - error;
        if (within(k, 1, ERRORS)) {
            errors[k - 1]++;
        }
        return error;
    }

    private boolean stands(int scene) {
        return within(scene, 0, play.size - 1);
    }

    /** There are as many places as SCENES. */
    private boolean isPlace(int place) {
        return within(place, 0, play.size - 1);
    }

    private boolean isSet(int set) {
        return within(set, 0, play.all());
    }

    private static boolean isKindAndM(int km) {
        return within(km, 0, 10 * KINDS - 1);
    }

    private static boolean isUse(int use) {
        return within(use, 0, USES - 1);
    }

    private static boolean isSheet(int sheet) {
        return within(sheet, 0, SHEETS - 1);
    }

    private Sheet sheetAt(int sheet) {
        return sheets[within(sheet, 0, sheets.length - 1) ? sheet : 0];
    }

    /** 0: a SHEET that isn't missing. */
    private int errorOfSheet(int sheet) {
        if (!isSheet(sheet)) {
            return BEYOND;
        }
        return sheetAt(sheet).bits == 0 ? NONE : 0;
    }

    /** 0: so many EVENINGS may be given. */
    private int errorOfEvenings(int n) {
        if (!within(n, 1, EVENINGS_A_CALL)) {
            return BEYOND;
        }
        return play.evenings + n > MOST_EVENINGS ? STATE : 0;
    }

    private static boolean within(int v, int low, int high) {
        return v >= low && v <= high;
    }

    private static int held(int v, int low, int high) {
        return Math.max(low, Math.min(high, v));
    }

    private static int truth(boolean b) {
        return b ? 1 : 0;
    }

    /** The least of a set; -1: it has none. */
    private static int leastOf(int set) {
        return set == 0 ? -1 : Integer.bitCount((set & -set) - 1);
    }

    private static int aboveOf(int kind) {
        return within(kind, 0, ABOVE.length - 1) ? ABOVE[kind] : -1;
    }

    private static boolean isUnder(int kind, int upper) {
        int at = kind;
        for (int i = 0; i < KINDS && at >= 0; i++) {
            if (at == upper) {
                return true;
            }
            at = aboveOf(at);
        }
        return false;
    }

    /** A row of numbers up to a limit, made once and used again, as the room never gets anything back. */
    private static final class Row {
        private final int[] items;
        int size;

        Row(int limit) {
            items = new int[Math.max(limit, 0)];
        }

        /** A row that has all its numbers from the first on. */
        static Row full(int limit) {
            Row row = new Row(limit);
            row.size = row.items.length;
            return row;
        }

        int at(int i) {
            return i >= 0 && i < size && i < items.length ? items[i] : 0;
        }

        void change(int i, int v) {
            if (i >= 0 && i < size && i < items.length) {
                items[i] = v;
            }
        }

        void add(int v) {
            if (size >= 0 && size < items.length) {
                items[size] = v;
                size++;
            }
        }

        int takeLast() {
            if (size < 1 || size > items.length) {
                return 0;
            }
            size--;
            return items[size];
        }

        void insert(int i, int v) {
            if (i < 0 || i > size || size >= items.length) {
                return;
            }
            for (int k = size; k > i; k--) {
                items[k] = items[k - 1];
            }
            items[i] = v;
            size++;
        }

        void removeAt(int i) {
            if (i < 0 || i >= size || size > items.length) {
                return;
            }
            for (int k = i; k < size - 1; k++) {
                items[k] = items[k + 1];
            }
            size--;
        }

        int find(int v) {
            for (int i = 0; i < size; i++) {
                if (at(i) == v) {
                    return i;
                }
            }
            return -1;
        }

        void swap(int i, int j) {
            int v = at(i);
            change(i, at(j));
            change(j, v);
        }

        void reverse() {
            for (int i = 0; i < size / 2; i++) {
                swap(i, size - 1 - i);
            }
        }

        void clear() {
            size = 0;
        }

        void resize(int n) {
            size = held(n, 0, items.length);
            changeAll(0);
        }

        void changeAll(int v) {
            for (int i = 0; i < size; i++) {
                change(i, v);
            }
        }

        void copyFrom(Row other) {
            size = Math.min(other.size, items.length);
            overwrite(0, other, 0, size);
        }

        /** Whether n numbers stand from i on; no sum of the two, since it might wrap. */
        boolean spans(int i, int n) {
            return n >= 0 && i >= 0 && i <= size - n;
        }

        /** As they all were ahead of it, even where both are one row. */
        void overwrite(int j, Row source, int i, int n) {
            if (source.holds(i, n) && holds(j, n)) {
                System.arraycopy(source.items, i, items, j, n);
            }
        }

        private boolean holds(int i, int n) {
            return spans(i, n) && size <= items.length;
        }
    }

    private static final class Sheet {
        final Row numbers;
        /** 0: it is missing. */
        int bits;

        Sheet() {
            numbers = new Row(SHEET_NUMBERS);
        }

        void lay(int width, int n) {
            bits = width;
            numbers.resize(width == 0 ? 0 : n);
        }

        void write(int i, int v) {
            int unused = 32 - bits;
            numbers.change(i, v << unused >> unused);
        }
    }

    private static final class Scene {
        final int number;
        int kind;
        int m;
        int causes;
        int minutes;
        int cast;
        int prop;
        int takenAt;
        int leftAt;
        int will;

        Scene(int itsNumber) {
            number = itsNumber;
            prop = NO_PROP;
        }

        void begin(int km, int itsCauses, int itsMinutes, int itsCast) {
            kind = km / 10;
            m = km % 10;
            causes = itsCauses;
            minutes = itsMinutes;
            cast = itsCast;
            will = 1;
            carry(NO_PROP, 0, 0);
        }

        void carry(int what, int from, int to) {
            prop = what;
            takenAt = from;
            leftAt = to;
        }

        /** What it holds by itself; the rest hangs on other SCENES. */
        int own(int what) {
            switch (what) {
                case 0:
                    return kind;
                case 1:
                    return m;
                case 2:
                    return causes;
                case 3:
                    return minutes;
                case 4:
                    return cast;
                case 5:
                    return prop;
                case 6:
                    return will;
                default:
                    return shock();
            }
        }

        static boolean mayHave(int what, int v) {
            switch (what) {
                case 3:
                    return within(v, 1, LONGEST);
                case 4:
                    return within(v, 0, CASTS - 1);
                case 6:
                    return within(v, 0, 1);
                default:
                    return false;
            }
        }

        int change(int what, int v) {
            int was = own(what);
            switch (what) {
                case 3:
                    minutes = v;
                    break;
                case 4:
                    cast = v;
                    break;
                default:
                    will = v;
                    break;
            }
            return was;
        }

        int shock() {
            switch (kind) {
                case JOKE:
                case FARCE:
                    return m;
                case DEATH:
                    return 5;
                case MURDER:
                    return 5 + m;
                default:
                    return 0;
            }
        }

        /** Whether one of a KIND, with CAUSES of which t COME, comes of them. */
        boolean comesOf(int t, int asKind) {
            int n = Integer.bitCount(causes);
            switch (asKind) {
                case SCENE:
                    return t == n;
                case LETTER:
                    return t >= 1;
                case JOKE:
                    return t % 2 == 1;
                case DEATH:
                    return t < n;
                case SECRET:
                    return t >= 1 + m % 3;
                case FARCE:
                    return (t % 2 == 1) != (m % 2 == 1);
                default:
                    return m > 4 || t < n;
            }
        }

        int beginsAt(int backwards) {
            return backwards == 1 ? leftAt : takenAt;
        }

        int endsAt(int backwards) {
            return backwards == 1 ? takenAt : leftAt;
        }

        void copyFrom(Scene other) {
            kind = other.kind;
            m = other.m;
            causes = other.causes;
            minutes = other.minutes;
            cast = other.cast;
            prop = other.prop;
            takenAt = other.takenAt;
            leftAt = other.leftAt;
            will = other.will;
        }
    }

    /** All that an IMAGE keeps. */
    private static final class Play {
        private final Scene[] scenes;
        /** Where each PROP lies while THE ORDER is gone through; -1: it wasn't seen yet. */
        private final Row spots;
        private final Law guessing;
        private final Law clapping;
        final Row row;
        final Row tape;
        final Row waiting;
        int size;
        int backwards;
        int takings;
        int evenings;
        int z;

        Play() {
            scenes = new Scene[MOST_SCENES];
            for (int i = 0; i < scenes.length; i++) {
                scenes[i] = new Scene(i);
            }
            spots = Row.full(PROPS);
            guessing = new Law(0);
            clapping = new Law(1);
            row = new Row(MOST_SCENES);
            tape = new Row(TAPE_BYTES);
            waiting = new Row(MOST_WAITING);
            backwards = 1;
            z = 1;
        }

        Scene at(int number) {
            return scenes[number >= 0 && number < scenes.length ? number : 0];
        }

        Law lawOf(int use) {
            return use == 0 ? guessing : clapping;
        }

        int all() {
            return (1 << size) - 1;
        }

        int open(int km, int causes, int minutes, int cast) {
            int number = size;
            at(number).begin(km, causes, minutes, cast);
            row.insert(0, number);
            size++;
            return number;
        }

        int wills() {
            int wills = 0;
            for (int i = 0; i < size; i++) {
                wills |= at(i).will << i;
            }
            return wills;
        }

        /** The SCENES without CAUSES. */
        int starts() {
            int starts = 0;
            for (int i = 0; i < size; i++) {
                starts |= truth(at(i).causes == 0) << i;
            }
            return starts;
        }

        int happening() {
            return outcome(wills(), -1, SCENE);
        }

        /** Those that COME by these WILLS, were one of them (-1: none) of another KIND. */
        int outcome(int wills, int other, int otherKind) {
            int coming = 0;
            for (int i = 0; i < size; i++) {
                Scene scene = at(i);
                boolean comes;
                if (scene.causes == 0) {
                    comes = (wills >> i & 1) == 1;
                } else {
                    comes = scene.comesOf(Integer.bitCount(scene.causes & coming), i == other ? otherKind : scene.kind);
                }
                coming |= truth(comes) << i;
            }
            return coming;
        }

        /** As a set, which has one ACTOR at most. */
        int killedBy(int number, int happening) {
            Scene scene = at(number);
            boolean kills = (happening >> number & 1) == 1 && isUnder(scene.kind, DEATH);
            return kills ? scene.cast & -scene.cast : 0;
        }

        boolean isBroken(int number, int happening) {
            int dead = 0;
            for (int i = 0; i < number; i++) {
                dead |= killedBy(i, happening);
            }
            return (at(number).cast & dead) != 0;
        }

        int firstBroken() {
            int happening = happening();
            for (int place = 0; place < size; place++) {
                if (isBroken(row.at(place), happening)) {
                    return place;
                }
            }
            return -1;
        }

        int givenAhead(int place) {
            int given = 0;
            for (int i = 0; i < place; i++) {
                given |= 1 << row.at(i);
            }
            return given;
        }

        int guessAt(int place) {
            int number = row.at(place);
            return guessOf(number, Integer.bitCount(at(number).causes & ~givenAhead(place)));
        }

        /** What is guessed at a SCENE when c of its CAUSES aren't given ahead of it. */
        int guessOf(int number, int c) {
            Scene scene = at(number);
            return guessing.gives(c, scene.minutes, scene.m) + (c > 0 ? scene.shock() : 0);
        }

        int guessed() {
            int sum = 0;
            int given = 0;
            for (int place = 0; place < size; place++) {
                int number = row.at(place);
                sum += guessOf(number, Integer.bitCount(at(number).causes & ~given));
                given |= 1 << number;
            }
            return sum;
        }

        int firstWrongGuess() {
            for (int i = 0; i < waiting.size; i++) {
                if (i >= size || waiting.at(i) != guessAt(i)) {
                    return i;
                }
            }
            return -1;
        }

        int understoodBy(int number) {
            int needed = 1 << number;
            // CAUSES have lesser numbers: one way down finds those of the CAUSES, too.
            for (int i = number; i >= 0; i--) {
                if ((needed >> i & 1) == 1) {
                    needed |= at(i).causes;
                }
            }
            int latest = 0;
            for (int place = 0; place < size; place++) {
                if ((needed >> row.at(place) & 1) == 1) {
                    latest = place;
                }
            }
            return latest;
        }

        int hands() {
            spots.changeAll(-1);
            int hands = 0;
            for (int place = 0; place < size; place++) {
                Scene scene = at(row.at(place));
                if (scene.prop != NO_PROP) {
                    int spot = spots.at(scene.prop);
                    hands += truth(spot >= 0 && spot != scene.beginsAt(backwards));
                    spots.change(scene.prop, scene.endsAt(backwards));
                }
            }
            return hands;
        }

        int rises() {
            int happening = happening();
            int rises = 0;
            int dead = 0;
            for (int place = 0; place < size; place++) {
                int number = row.at(place);
                rises += Integer.bitCount(at(number).cast & dead);
                dead |= killedBy(number, happening);
            }
            return rises;
        }

        int minutes() {
            int minutes = 0;
            for (int i = 0; i < size; i++) {
                minutes += at(i).minutes;
            }
            return minutes;
        }

        boolean isWholeOrder(Row numbers) {
            int seen = 0;
            for (int i = 0; i < numbers.size; i++) {
                int number = numbers.at(i);
                if (number < 0 || number >= size) {
                    return false;
                }
                seen |= 1 << number;
            }
            return numbers.size == size && seen == all();
        }

        int clap() {
            return clapping.gives(guessed(), hands(), rises());
        }

        void giveEvening(int clap) {
            takings = held(takings + clap, -MOST_TAKINGS, MOST_TAKINGS);
            evenings++;
        }

        /** What a draw changes in THE ORDER ahead of an EVENING. */
        void loosen() {
            int pairs = size - 1;
            if (pairs < 1) {
                return;
            }
            z = z * 1103515245 + 12345;
            int place = (z >>> 8) % pairs;
            row.swap(place, place + 1);
        }

        void copyFrom(Play other) {
            for (int i = 0; i < scenes.length; i++) {
                at(i).copyFrom(other.at(i));
            }
            guessing.code.copyFrom(other.guessing.code);
            clapping.code.copyFrom(other.clapping.code);
            row.copyFrom(other.row);
            tape.copyFrom(other.tape);
            waiting.copyFrom(other.waiting);
            size = other.size;
            backwards = other.backwards;
            takings = other.takings;
            evenings = other.evenings;
            z = other.z;
        }
    }

    /** What a USE gives. */
    private static final class Law {
        private final int use;
        private final Row stack;
        /**
         * The TEXT with each sign behind what it works on: a NUMBER as it is, NAMES as -1, -2, -3,
         * signs as their byte less than 0. Empty: there is no TEXT.
         */
        final Row code;

        Law(int itsUse) {
            use = itsUse;
            stack = new Row(TAPE_BYTES);
            code = new Row(TAPE_BYTES);
        }

        int gives(int a, int b, int c) {
            if (use == 0) {
                return held(code.size == 0 ? a * 10 : worth(a, b, c), 0, 99);
            }
            return held(code.size == 0 ? 100 - a - b * 5 : worth(a, b, c), -999, 999);
        }

        private int worth(int a, int b, int c) {
            stack.clear();
            for (int i = 0; i < code.size; i++) {
                int step = code.at(i);
                if (step >= 0) {
                    stack.add(step);
                } else if (step >= -3) {
                    stack.add(step == -1 ? a : step == -2 ? b : c);
                } else {
                    int right = stack.takeLast();
                    stack.add(step == -'!' ? right == 0 ? 1 : 0 : joined(-step, stack.takeLast(), right));
                }
            }
            return stack.takeLast();
        }

        private static int joined(int sign, int x, int y) {
            switch (sign) {
                case '|':
                    return x != 0 || y != 0 ? 1 : 0;
                case '&':
                    return x != 0 && y != 0 ? 1 : 0;
                case '<':
                    return x < y ? 1 : 0;
                case '=':
                    return x == y ? 1 : 0;
                case '>':
                    return x > y ? 1 : 0;
                case '+':
                    return x + y;
                case '-':
                    return x - y;
                case '*':
                    return x * y;
                case '/':
                    return y == 0 ? 0 : x / y;
                default:
                    return y == 0 ? 0 : x % y;
            }
        }
    }

    /** Reads THE TAPE as a TEXT. */
    private static final class Reader {
        private static final int COMPARISON = 2;
        private static final int INNERMOST = 5;

        private final Row tape;
        private String names;
        private int at;
        final Row code;

        Reader(Row itsTape) {
            tape = itsTape;
            names = "";
            code = new Row(TAPE_BYTES);
        }

        /** The FAULT; -1: there is none, and the code is that of the TEXT. */
        int faultIn(int use) {
            names = use == 0 ? "clm" : "ghr";
            at = 0;
            code.clear();
            boolean whole = readsLevel(0, 0) && at == tape.size;
            return whole ? -1 : at;
        }

        private int here() {
            return at < tape.size ? tape.at(at) : -1;
        }

        /** From T (0) on inwards to Q (5), which no sign of two sides reaches. */
        private static int levelOf(int sign) {
            switch (sign) {
                case '|':
                    return 0;
                case '&':
                    return 1;
                case '<':
                case '=':
                case '>':
                    return COMPARISON;
                case '+':
                case '-':
                    return 3;
                case '*':
                case '/':
                case '%':
                    return 4;
                default:
                    return -1;
            }
        }

        /** Each reader stops at the first byte that it can't go on with: that is the FAULT then. */
        private boolean readsLevel(int level, int open) {
            if (level >= INNERMOST) {
                return readsInnermost(open);
            }
            if (!readsLevel(level + 1, open)) {
                return false;
            }
            int most = level == COMPARISON ? 1 : TAPE_BYTES;
            for (int i = 0; i < most && levelOf(here()) == level; i++) {
                int sign = here();
                at++;
                if (!readsLevel(level + 1, open)) {
                    return false;
                }
                code.add(-sign);
            }
            return true;
        }

        private boolean readsInnermost(int open) {
            int first = here();
            if (isDigit(first)) {
                readNumber();
                return true;
            }
            int name = first < 0 ? -1 : names.indexOf((char) first);
            if (name >= 0) {
                at++;
                code.add(-1 - name);
                return true;
            }
            if (open >= MOST_OPEN || first != '!' && first != '(') {
                return false;
            }
            at++;
            return first == '!' ? readsNegated(open + 1) : readsLevel(0, open + 1) && readsClosing();
        }

        private boolean readsNegated(int open) {
            if (!readsInnermost(open)) {
                return false;
            }
            code.add(-'!');
            return true;
        }

        private boolean readsClosing() {
            if (here() != ')') {
                return false;
            }
            at++;
            return true;
        }

        private void readNumber() {
            int number = 0;
            for (int digits = 0; digits < 4 && isDigit(here()); digits++) {
                number = number * 10 + here() - '0';
                at++;
            }
            code.add(number);
        }

        private static boolean isDigit(int sign) {
            return sign >= '0' && sign <= '9';
        }
    }

    /** What other orders would give; a set of SCENES given ahead stands for all orders of them. */
    private static final class Choices {
        private static final int NO_HANDS_KNOWN = 99;
        /** In how many orders so many SCENES can be given. */
        private static final int[] WAYS = {1, 1, 2, 6, 24, 120, 720, 5040};

        private final Play play;
        /** What is guessed at each SCENE, MOST_SCENES rows of one for each number of CAUSES that may lack. */
        private final Row guesses;
        private final Row leastLeft;
        private final Row mostLeft;
        /** The fewest HANDS for a PROP behind each set, by the SCENE of the set that had it latest. */
        private final Row handsLeft;
        private final Row latestWith;
        final Row best;

        Choices(Play itsPlay) {
            play = itsPlay;
            guesses = Row.full(MOST_SCENES * MOST_SCENES);
            leastLeft = Row.full(SETS);
            mostLeft = Row.full(SETS);
            handsLeft = Row.full(SETS * MOST_SCENES);
            latestWith = Row.full(PROPS);
            best = new Row(MOST_SCENES);
        }

        private static boolean has(int set, int number) {
            return (set >> number & 1) == 1;
        }

        private static int waysOf(int scenes) {
            return within(scenes, 0, WAYS.length - 1) ? WAYS[scenes] : 0;
        }

        /** Asks the TEXT but once for each number of CAUSES that a SCENE may lack. */
        private void askGuesses() {
            for (int number = 0; number < play.size; number++) {
                for (int c = 0; c <= number; c++) {
                    guesses.change(number * MOST_SCENES + c, play.guessOf(number, c));
                }
            }
        }

        private int guessAfter(int given, int number) {
            return guesses.at(number * MOST_SCENES + Integer.bitCount(play.at(number).causes & ~given));
        }

        /** The least and the most that can be GUESSED behind each set. */
        private void weighGuesses() {
            int all = play.all();
            leastLeft.change(all, 0);
            mostLeft.change(all, 0);
            for (int given = all - 1; given >= 0; given--) {
                int low = MOST_GUESSED;
                int high = 0;
                for (int number = 0; number < play.size; number++) {
                    if (!has(given, number)) {
                        int next = given | 1 << number;
                        int guess = guessAfter(given, number);
                        low = Math.min(low, guess + leastLeft.at(next));
                        high = Math.max(high, guess + mostLeft.at(next));
                    }
                }
                leastLeft.change(given, low);
                mostLeft.change(given, high);
            }
        }

        /** How much; the order is the best row then. */
        int findLeastGuessed() {
            askGuesses();
            weighGuesses();
            best.clear();
            int given = 0;
            for (int place = 0; place < play.size; place++) {
                int next = leastNext(given);
                best.add(next);
                given |= 1 << next;
            }
            return leastLeft.at(0);
        }

        private int leastNext(int given) {
            for (int number = 0; number < play.size; number++) {
                if (!has(given, number)
                        && guessAfter(given, number) + leastLeft.at(given | 1 << number) == leastLeft.at(given)) {
                    return number;
                }
            }
            return 0;
        }

        int howManyUpTo(int g) {
            askGuesses();
            weighGuesses();
            return mostLeft.at(0) <= g ? waysOf(play.size) : countUpTo(g, 0, play.size);
        }

        /** How many orders of the SCENES left go on behind a set with at most so much to guess. */
        private int countUpTo(int g, int given, int left) {
            int found = 0;
            for (int number = 0; number < play.size && left > 0; number++) {
                if (!has(given, number)) {
                    int next = given | 1 << number;
                    int rest = g - guessAfter(given, number);
                    if (mostLeft.at(next) <= rest) {
                        found += waysOf(left - 1);
                    } else if (leastLeft.at(next) <= rest) {
                        found += countUpTo(rest, next, left - 1);
                    }
                }
            }
            return found;
        }

        /** How many HANDS; the order is the best row then. */
        int findFewestHands() {
            weighHands();
            latestWith.changeAll(-1);
            int hands = 0;
            for (int prop = 0; prop < PROPS; prop++) {
                hands += fewestAfter(prop, 0, -1);
            }
            best.clear();
            int given = 0;
            for (int place = 0; place < play.size; place++) {
                int next = handiestNext(given);
                best.add(next);
                given |= 1 << next;
                // For NO_PROP there is no number to change.
                latestWith.change(play.at(next).prop, next);
            }
            return hands;
        }

        private void weighHands() {
            for (int given = play.all(); given >= 0; given--) {
                for (int latest = 0; latest < play.size; latest++) {
                    int prop = play.at(latest).prop;
                    if (has(given, latest) && prop != NO_PROP) {
                        handsLeft.change(given * MOST_SCENES + latest, fewestAfter(prop, given, latest));
                    }
                }
            }
        }

        /** latest: -1, if none with that PROP was given. */
        private int fewestAfter(int prop, int given, int latest) {
            int fewest = NO_HANDS_KNOWN;
            for (int number = 0; number < play.size; number++) {
                if (!has(given, number) && play.at(number).prop == prop) {
                    fewest = Math.min(fewest, handsBy(given, latest, number));
                }
            }
            return fewest == NO_HANDS_KNOWN ? 0 : fewest;
        }

        /** The fewest HANDS for a PROP behind a set, if the next SCENE with it is this one. */
        private int handsBy(int given, int latest, int number) {
            int moved = 0;
            if (latest >= 0) {
                moved = truth(play.at(latest).endsAt(play.backwards) != play.at(number).beginsAt(play.backwards));
            }
            return moved + handsLeft.at((given | 1 << number) * MOST_SCENES + number);
        }

        /** PROPS don't hang on one another: a SCENE has only to keep the fewest HANDS of its own one. */
        private int handiestNext(int given) {
            for (int number = 0; number < play.size; number++) {
                if (!has(given, number)) {
                    int prop = play.at(number).prop;
                    int latest = latestWith.at(prop);
                    if (prop == NO_PROP || handsBy(given, latest, number) == fewestAfter(prop, given, latest)) {
                        return number;
                    }
                }
            }
            return 0;
        }
    }

    /** What other WILLS would give. */
    private static final class Worlds {
        private final Play play;
        /** By which SCENES each world differs from what is. */
        private final Row differences;

        Worlds(Play itsPlay) {
            play = itsPlay;
            differences = new Row(SETS);
        }

        /** The SCENES whose WILL is changed, as a set; -1: by none. */
        int leastChange(int scene, int v) {
            int others = ~play.starts();
            int wills = play.wills();
            int best = -1;
            for (int change = 0; change <= play.all(); change++) {
                boolean fewer = best < 0 || Integer.bitCount(change) < Integer.bitCount(best);
                if ((change & others) == 0 && fewer
                        && (play.outcome(wills ^ change, -1, SCENE) >> scene & 1) == v) {
                    best = change;
                }
            }
            return best;
        }

        void compare() {
            int others = ~play.starts();
            int happening = play.happening();
            differences.clear();
            for (int wills = 0; wills <= play.all(); wills++) {
                if ((wills & others) == 0) {
                    differences.add(play.outcome(wills, -1, SCENE) ^ happening);
                }
            }
        }

        /** How many worlds don't differ in what is given ahead of a place. */
        int likeUpTo(int place) {
            int given = play.givenAhead(place);
            int alike = 0;
            for (int i = 0; i < differences.size; i++) {
                alike += truth((differences.at(i) & given) == 0);
            }
            return alike;
        }
    }

    /** What SCENES say by the BODIES of their KINDS. */
    private static final class Voices {
        static final int ACTS = 4;
        private static final int OPENS = 0;
        private static final int PLAYS = 1;
        private static final int CLOSES = 2;
        private static final int TELLS = 3;
        /** No BODY calls others deeper than this. */
        private static final int DEEPEST = 20;
        /** Of each KIND that which opens, plays, closes, tells; 0: it has none of its own. */
        private static final int[] BODIES = {
            10, 11, 12, 13,
            0, 20, 0, 0,
            30, 0, 0, 0,
            0, 0, 40, 0,
            0, 50, 0, 0,
            0, 0, 0, 60,
            0, 0, 70, 71,
        };

        final Row bodies;

        Voices() {
            bodies = new Row(TRACE_BODIES);
        }

        /** The KIND, or the next one above, that has a BODY of an act; -1: none. */
        private static int ownerOf(int act, int from) {
            int kind = from;
            for (int i = 0; i < KINDS && kind >= 0; i++) {
                if (bodyOf(act, kind) != 0) {
                    return kind;
                }
                kind = aboveOf(kind);
            }
            return -1;
        }

        private static int bodyOf(int act, int kind) {
            int i = kind * ACTS + act;
            return i >= 0 && i < BODIES.length ? BODIES[i] : 0;
        }

        int begin(Scene scene, int act, int x) {
            bodies.clear();
            return speak(scene, scene.kind, act, x, 0);
        }

        /** An act by the BODY that is found from a KIND on upwards. */
        private int speak(Scene scene, int from, int act, int x, int depth) {
            int owner = ownerOf(act, from);
            if (owner < 0 || depth > DEEPEST) {
                return 0;
            }
            int body = bodyOf(act, owner);
            bodies.add(body);
            return run(body, scene, aboveOf(owner), x, depth + 1);
        }

        /** Calls by the SCENE's own KIND begin at the KIND that it is, calls of super at the one above. */
        private int run(int body, Scene scene, int above, int x, int depth) {
            int own = scene.kind;
            switch (body) {
                case 10:
                    return x + scene.number;
                case 11:
                    return speak(scene, own, OPENS, x, depth) * 2;
                case 12:
                    return x - scene.m;
                case 13:
                    return speak(scene, own, PLAYS, x, depth) ^ speak(scene, own, CLOSES, x, depth);
                case 20:
                    return speak(scene, above, PLAYS, x, depth) - speak(scene, own, CLOSES, 1, depth);
                case 30:
                    return speak(scene, above, OPENS, x, depth) * 3;
                case 40:
                    return -speak(scene, above, CLOSES, x, depth);
                case 50:
                    return speak(scene, above, PLAYS, x + 1, depth);
                case 60:
                    return speak(scene, above, TELLS, x, depth) - speak(scene, own, OPENS, 2, depth);
                case 70:
                    return speak(scene, above, CLOSES, x, depth) ^ scene.number;
                default:
                    return speak(scene, own, PLAYS, x, depth) - speak(scene, above, TELLS, x, depth);
            }
        }
    }
}
