public final class TypebarMachine {

    public static final int NONE = -1;

    // The settings, numbered in the order in which the text of a machine tells them.
    private static final int WIDTH = 0;
    private static final int LINES = 1;
    private static final int LEFT = 2;
    private static final int RIGHT = 3;
    private static final int BELL = 4;
    private static final int PACE = 5;
    private static final int RISE = 6;
    private static final int CLEAR = 7;
    private static final int NEAR = 8;
    private static final int LENGTH = 9;
    private static final int INK = 10;
    private static final int WEAR = 11;
    private static final int SPACING = 12;
    private static final int SETTINGS = 13;

    // The counts, numbered as count() numbers them; 0 to 2 and the ribbon's turns are held elsewhere.
    private static final int PRINTED = 3;
    private static final int SPACES = 4;
    private static final int TABS = 5;
    private static final int BACKS = 6;
    private static final int RETURNS = 7;
    private static final int JAMS = 8;
    private static final int FAILED = 9;
    private static final int RINGS = 10;
    private static final int TURNS = 11;
    private static final int OVERPRINTED = 12;
    private static final int PRESSED = 13;
    private static final int COUNTS = 14;

    private static final int IS_JAMMED = 1;
    private static final int IS_LOCKED = 2;
    private static final int NO_KEY = 3;
    private static final int NOT_BACK = 4;
    private static final int GETS_JAMMED = 5;
    private static final int NO_LINE = 6;

    private static final int SPACE_KEY = 0;
    private static final int TAB_KEY = 1;
    private static final int BACK_KEY = 2;
    private static final int RETURN_KEY = 3;
    private static final int RELEASE_KEY = 4;
    private static final int FREE_KEY = 5;

    private static final int MOST_BYTES = 500;
    private static final int APPENDED_BYTES = 20;
    private static final int MOST_LINES = 12;
    private static final int MOST_COLUMNS = 40;
    private static final int MOST_BARS = 26;
    private static final int MOST_PLACES = 60;
    private static final int MOST_INK = 9;
    private static final int DARKEST = 9;
    private static final int MOST_ANGLE = 180;
    private static final int MOST_PACE = 999;
    private static final int MOST_TYPING_PACE = 300;
    private static final int MOST_REST = 9999;
    private static final int FREEING_TIME = 100;
    private static final int MOST_UNDONE = 8;
    private static final int BLANK = 32;

    private final Row input = new Row(MOST_BYTES);
    private int inputSize;
    private boolean loaded;
    private final Machine now = new Machine();
    // What would be is tried out here, and a text is parsed into it, so that a fault leaves the machine as it is.
    private final Machine trial = new Machine();
    private final Parser parser = new Parser(input, trial);
    private final History history = new History();
    private final Slot firstSlot = new Slot();
    private final Slot secondSlot = new Slot();
    private final Row written = new Row(MOST_COLUMNS);
    private int writtenSize;
    private final Row reach = new Row(MOST_COLUMNS + 1);

    public TypebarMachine() {
    }

    // ---- input

    public int append(int a, int b, int c, int d, int e) {
        if (inputSize + APPENDED_BYTES > MOST_BYTES) {
            return NONE;
        }
        appendFour(a);
        appendFour(b);
        appendFour(c);
        appendFour(d);
        appendFour(e);
        return inputSize;
    }

    private void appendFour(int bytes) {
        for (int shift = 24; shift >= 0; shift -= 8) {
            input.put(inputSize, (bytes >> shift) & 255);
            inputSize++;
        }
    }

    public int load(int n) throws IndexOutOfBoundsException, IllegalArgumentException {
        requireBytes(n);
        parser.parse(n);
        inputSize = 0;
        requireArgument(parser.code == 0);
        now.copyFrom(trial);
        loaded = true;
        history.clear();
        firstSlot.filled = false;
        secondSlot.filled = false;
        return now.bars.number;
    }

    public int parseError() {
        return parser.code;
    }

    public int errorPosition() {
        return parser.position;
    }

    public int buffered() {
        return inputSize;
    }

    // ---- what there is

    public int count(int what) throws IllegalStateException, IllegalArgumentException {
        requireLoaded();
        requireArgument(what >= 0 && what < COUNTS);
        switch (what) {
            case 0:
                return now.bars.number;
            case 1:
                return now.carriage.stopsSet();
            case 2:
                return now.time;
            case TURNS:
                return now.ribbon.turns;
            default:
                return now.tally.at(what);
        }
    }

    public int setting(int what) throws IllegalStateException, IllegalArgumentException {
        requireLoaded();
        requireArgument(what >= 0 && what < SETTINGS);
        return now.settings.at(what);
    }

    public int carriage(int what) throws IllegalStateException, IllegalArgumentException {
        requireLoaded();
        requireArgument(what >= 0 && what <= 3);
        Carriage carriage = now.carriage;
        switch (what) {
            case 0:
                return carriage.line;
            case 1:
                return carriage.column;
            case 2:
                return carriage.locksAt(carriage.column) ? 1 : 0;
            default:
                return carriage.released ? 1 : 0;
        }
    }

    public int bar(int bar, int what)
            throws IllegalStateException, IndexOutOfBoundsException, IllegalArgumentException {
        requireLoaded();
        requireBar(bar);
        requireArgument(what >= 0 && what <= 5);
        Bars bars = now.bars;
        switch (what) {
            case 0:
                return bars.letters.at(bar);
            case 1:
                return bars.angles.at(bar);
            case 2:
                return bars.riseOf(bar);
            case 3:
                return bars.strikes.at(bar);
            case 4:
                return Math.max(0, bars.backAt(bar) - now.time);
            default:
                return bars.isJammed(bar) ? 1 : 0;
        }
    }

    public int barOf(int letter) throws IllegalStateException {
        requireLoaded();
        return now.bars.withLetter(letter);
    }

    public int latest() throws IllegalStateException {
        requireLoaded();
        return now.bars.latest;
    }

    public int ribbon(int place) throws IllegalStateException, IndexOutOfBoundsException {
        requireLoaded();
        requireIndex(place >= 0 && place < now.settings.at(LENGTH));
        return now.ribbon.inks.at(place);
    }

    public int head(int what) throws IllegalStateException, IllegalArgumentException {
        requireLoaded();
        requireArgument(what >= 0 && what <= 3);
        Ribbon ribbon = now.ribbon;
        switch (what) {
            case 0:
                return ribbon.head;
            case 1:
                return ribbon.forward ? 1 : 0;
            case 2:
                return ribbon.allInk();
            default:
                return ribbon.dryPlaces();
        }
    }

    public int sign(int line, int column) throws IllegalStateException, IndexOutOfBoundsException {
        requireLoaded();
        requireLine(line);
        requireColumn(column);
        return now.page.signs.at(now.page.placeOf(line, column));
    }

    public int darkness(int line, int column) throws IllegalStateException, IndexOutOfBoundsException {
        requireLoaded();
        requireLine(line);
        requireColumn(column);
        return now.page.shades.at(now.page.placeOf(line, column));
    }

    public boolean isStop(int column) throws IllegalStateException, IndexOutOfBoundsException {
        requireLoaded();
        requireColumn(column);
        return now.carriage.stopsAt(column);
    }

    public int reason() throws IllegalStateException {
        requireLoaded();
        return now.reason;
    }

    public int reasonAt() throws IllegalStateException {
        requireLoaded();
        return now.reasonAt;
    }

    // ---- looks

    public int lineLength(int line) throws IllegalStateException, IndexOutOfBoundsException {
        requireLoaded();
        requireLine(line);
        return now.page.endOf(line);
    }

    public int words(int line) throws IllegalStateException, IndexOutOfBoundsException {
        requireLoaded();
        requireLine(line);
        return now.page.wordsIn(line);
    }

    public int letters(int letter) throws IllegalStateException {
        requireLoaded();
        return isSmall(letter) || isCapital(letter) ? now.page.placesWith(letter) : 0;
    }

    public int palest() throws IllegalStateException {
        requireLoaded();
        return now.page.palestPlace();
    }

    public double meanDarkness() throws IllegalStateException {
        requireLoaded();
        int filled = now.page.filledPlaces();
        return filled == 0 ? 0.0 : (double) now.page.allDarkness() / (double) filled;
    }

    public float inkShare() throws IllegalStateException {
        requireLoaded();
        int full = now.settings.at(LENGTH) * now.settings.at(INK);
        return full == 0 ? 0.0f : (float) now.ribbon.allInk() / (float) full;
    }

    public int slowest() throws IllegalStateException {
        requireLoaded();
        return now.bars.withGreatestRise();
    }

    public int nextStop(int column) throws IllegalStateException, IndexOutOfBoundsException {
        requireLoaded();
        requireCarriageColumn(column);
        return now.carriage.tabFrom(column);
    }

    public int bellIn() throws IllegalStateException {
        requireLoaded();
        return now.carriage.spacesToBell();
    }

    // ---- what would be

    public int wouldBe(int bar, boolean shift) throws IllegalStateException, IndexOutOfBoundsException {
        requireLoaded();
        requireBar(bar);
        int fault = now.standingFault(true);
        return fault == 0 ? now.bars.strikeFault(bar, now.time + now.settings.at(PACE)) : fault;
    }

    public int freeIn(int bar) throws IllegalStateException, IndexOutOfBoundsException {
        requireLoaded();
        requireBar(bar);
        for (int pace = 1; pace <= MOST_PACE; pace++) {
            if (now.bars.strikeFault(bar, now.time + pace) == 0) {
                return pace;
            }
        }
        return NONE;
    }

    public int paceOf(int bar, int other) throws IllegalStateException, IndexOutOfBoundsException {
        requireLoaded();
        requireBar(bar);
        requireBar(other);
        return now.bars.leastPace(bar, other);
    }

    public int worstPair() throws IllegalStateException {
        requireLoaded();
        return now.bars.slowestPair();
    }

    public int wouldType(int n, int what)
            throws IllegalStateException, IndexOutOfBoundsException, IllegalArgumentException {
        requireLoaded();
        requireBytes(n);
        requireArgument(what >= 0 && what <= 5);
        trial.copyFrom(now);
        trial.lastShade = 0;
        int done = trial.typeText(input, n);
        switch (what) {
            case 0:
                return done;
            case 1:
                return trial.reason;
            case 2:
                return trial.carriage.column;
            case 3:
                return trial.carriage.line;
            case 4:
                return trial.tally.at(RINGS) - now.tally.at(RINGS);
            default:
                return trial.lastShade;
        }
    }

    public int paceFor(int n) throws IllegalStateException, IndexOutOfBoundsException {
        requireLoaded();
        requireBytes(n);
        for (int pace = 1; pace <= MOST_TYPING_PACE; pace++) {
            // Neither the page nor the ribbon makes a key fail, so it does not matter what the trial has of them.
            trial.copyMotionFrom(now);
            trial.settings.put(PACE, pace);
            trial.typeText(input, n);
            if (trial.reason != NOT_BACK && trial.reason != GETS_JAMMED) {
                return pace;
            }
        }
        return NONE;
    }

    public int keysTo(int column) throws IllegalStateException, IndexOutOfBoundsException {
        requireLoaded();
        requireCarriageColumn(column);
        return now.carriage.fewestKeysTo(column, reach);
    }

    public int printsLeft() throws IllegalStateException {
        requireLoaded();
        Ribbon ribbon = trial.ribbon;
        trial.settings.copyFrom(now.settings);
        ribbon.copyFrom(now.ribbon);
        // A ribbon that is worn has no more prints than ink, and one that is not shows all its places sooner.
        for (int prints = 0; prints <= MOST_PLACES * MOST_INK; prints++) {
            if (ribbon.feed() == 0) {
                return prints;
            }
        }
        return NONE;
    }

    // ---- texts

    public int writeLine(int line) throws IllegalStateException, IndexOutOfBoundsException {
        requireLoaded();
        requireLine(line);
        writtenSize = now.page.endOf(line);
        for (int column = 0; column < writtenSize; column++) {
            written.put(column, now.page.signs.at(now.page.placeOf(line, column)));
        }
        return writtenSize;
    }

    public int writeShades(int line) throws IllegalStateException, IndexOutOfBoundsException {
        requireLoaded();
        requireLine(line);
        writtenSize = now.page.endOf(line);
        for (int column = 0; column < writtenSize; column++) {
            int place = now.page.placeOf(line, column);
            written.put(column, now.page.isEmpty(place) ? BLANK : '0' + now.page.shades.at(place));
        }
        return writtenSize;
    }

    public int writeRuler() throws IllegalStateException {
        requireLoaded();
        writtenSize = now.settings.at(WIDTH);
        for (int column = 0; column < writtenSize; column++) {
            written.put(column, rulerMark(column));
        }
        return writtenSize;
    }

    private int rulerMark(int column) {
        if (column == now.carriage.column) {
            return 'V';
        }
        if (column == now.settings.at(LEFT)) {
            return 'L';
        }
        if (column == now.settings.at(RIGHT)) {
            return 'R';
        }
        return now.carriage.stopsAt(column) ? 'T' : '.';
    }

    public int textByte(int i) throws IndexOutOfBoundsException {
        requireIndex(i >= 0 && i < writtenSize);
        return written.at(i);
    }

    // ---- changes

    public int strike(int bar, boolean shift) throws IllegalStateException, IndexOutOfBoundsException {
        requireLoaded();
        requireBar(bar);
        history.keep(now);
        return now.noteKey(now.letterKey(bar, shift));
    }

    public int press(int key) throws IllegalStateException, IllegalArgumentException {
        requireLoaded();
        requireArgument(key >= SPACE_KEY && key <= FREE_KEY);
        history.keep(now);
        return now.noteKey(now.plainKey(key));
    }

    public int type(int n) throws IllegalStateException, IndexOutOfBoundsException {
        requireLoaded();
        requireBytes(n);
        history.keep(now);
        inputSize = 0;
        return now.typeText(input, n);
    }

    public boolean setStop(int column, boolean is) throws IllegalStateException, IndexOutOfBoundsException {
        requireLoaded();
        requireColumn(column);
        history.keep(now);
        boolean was = now.carriage.stopsAt(column);
        now.carriage.stops.put(column, is ? 1 : 0);
        return was;
    }

    public int setMargin(boolean right, int column) throws IllegalStateException, IllegalArgumentException {
        requireLoaded();
        int apart = Math.max(1, now.settings.at(BELL));
        int low = right ? now.settings.at(LEFT) + apart : 0;
        int high = right ? now.settings.at(WIDTH) - 1 : now.settings.at(RIGHT) - apart;
        requireArgument(column >= low && column <= high);
        history.keep(now);
        return replaceSetting(right ? RIGHT : LEFT, column);
    }

    public int set(int what, int value) throws IllegalStateException, IllegalArgumentException {
        requireLoaded();
        requireArgument(isSettable(what));
        requireArgument(value >= lowest(now.settings, what) && value <= highest(now.settings, what));
        history.keep(now);
        return replaceSetting(what, value);
    }

    private int replaceSetting(int what, int value) {
        int previous = now.settings.at(what);
        now.settings.put(what, value);
        return previous;
    }

    public int rest(int time) throws IllegalStateException, IllegalArgumentException {
        requireLoaded();
        requireArgument(time >= 1 && time <= MOST_REST);
        history.keep(now);
        now.time += time;
        return now.bars.notBackAt(now.time);
    }

    public int newRibbon() throws IllegalStateException {
        requireLoaded();
        history.keep(now);
        int old = now.ribbon.allInk();
        now.ribbon.renew();
        return old;
    }

    public int newPage() throws IllegalStateException {
        requireLoaded();
        history.keep(now);
        int filled = now.page.filledPlaces();
        now.page.clear();
        now.carriage.goHome();
        return filled;
    }

    public int undo() throws IllegalStateException {
        if (history.size == 0) {
            throw new IllegalStateException("there is no change to undo");
        }
        history.takeLatest(now);
        return history.size;
    }

    public int undoable() {
        return history.size;
    }

    public int save(int slot) throws IllegalStateException, IndexOutOfBoundsException {
        requireLoaded();
        requireSlot(slot);
        Slot chosen = slotOf(slot);
        chosen.machine.copyFrom(now);
        chosen.filled = true;
        return now.time;
    }

    public int restore(int slot) throws IndexOutOfBoundsException, IllegalStateException {
        requireSlot(slot);
        Slot chosen = slotOf(slot);
        if (!chosen.filled) {
            throw new IllegalStateException("nothing is saved there");
        }
        now.copyFrom(chosen.machine);
        history.clear();
        return now.time;
    }

    private Slot slotOf(int slot) {
        return slot == 0 ? firstSlot : secondSlot;
    }

    // ---- what calls require

    private void requireLoaded() {
        if (!loaded) {
            throw new IllegalStateException("no text was loaded");
        }
    }

    private void requireBytes(int n) {
        requireIndex(n >= 0 && n <= inputSize);
    }

    private void requireBar(int bar) {
        requireIndex(bar >= 0 && bar < now.bars.number);
    }

    private void requireLine(int line) {
        requireIndex(line >= 0 && line < now.settings.at(LINES));
    }

    private void requireColumn(int column) {
        requireIndex(column >= 0 && column < now.settings.at(WIDTH));
    }

    private void requireCarriageColumn(int column) {
        requireIndex(column >= 0 && column <= now.settings.at(WIDTH));
    }

    private static void requireSlot(int slot) {
        requireIndex(slot == 0 || slot == 1);
    }

    private static void requireIndex(boolean exists) {
        if (!exists) {
            throw new IndexOutOfBoundsException("there is no such bar, line, column or index");
        }
    }

    private static void requireArgument(boolean fits) {
        if (!fits) {
            throw new IllegalArgumentException("an argument is out of range, or the text has an error");
        }
    }

    // ---- bounds and bytes

    private static boolean isSettable(int what) {
        return what >= BELL && what <= NEAR || what == WEAR || what == SPACING;
    }

    private static int lowest(Row settings, int what) {
        switch (what) {
            case WIDTH:
                return 10;
            case RIGHT:
                return settings.at(LEFT) + 1;
            case LENGTH:
                return 5;
            case LINES:
            case PACE:
            case RISE:
            case INK:
            case SPACING:
                return 1;
            default:
                return 0;
        }
    }

    private static int highest(Row settings, int what) {
        switch (what) {
            case WIDTH:
                return MOST_COLUMNS;
            case LINES:
                return MOST_LINES;
            case LEFT:
                return settings.at(WIDTH) - 2;
            case RIGHT:
                return settings.at(WIDTH) - 1;
            case BELL:
                return settings.at(RIGHT) - settings.at(LEFT);
            case PACE:
                return MOST_PACE;
            case LENGTH:
                return MOST_PLACES;
            case INK:
                return MOST_INK;
            case WEAR:
            case SPACING:
                return 3;
            default:
                return 99;
        }
    }

    private static boolean isSmall(int letter) {
        return letter >= 'a' && letter <= 'z';
    }

    private static boolean isCapital(int letter) {
        return letter >= 'A' && letter <= 'Z';
    }

    private static boolean isDigit(int letter) {
        return letter >= '0' && letter <= '9';
    }

    private static int keyOf(int letter) {
        switch (letter) {
            case ' ':
                return SPACE_KEY;
            case '>':
                return TAB_KEY;
            case '<':
                return BACK_KEY;
            case '/':
                return RETURN_KEY;
            case '^':
                return RELEASE_KEY;
            case '!':
                return FREE_KEY;
            default:
                return NONE;
        }
    }

    /** A row of numbers of which every index is tested where it is used. */
    private static final class Row {
        private final int[] cells;

        Row(int length) {
            cells = new int[Math.max(0, length)];
        }

        int at(int i) {
            return i >= 0 && i < cells.length ? cells[i] : 0;
        }

        void put(int i, int value) {
            if (i >= 0 && i < cells.length) {
                cells[i] = value;
            }
        }

        void fill(int value) {
            for (int i = 0; i < cells.length; i++) {
                cells[i] = value;
            }
        }

        void copyFrom(Row other) {
            System.arraycopy(other.cells, 0, cells, 0, Math.min(cells.length, other.cells.length));
        }
    }

    private static final class Ribbon {
        private final Row settings;
        private final Row inks = new Row(MOST_PLACES);
        private int head;
        private boolean forward;
        private int turns;

        Ribbon(Row settings) {
            this.settings = settings;
        }

        void copyFrom(Ribbon other) {
            inks.copyFrom(other.inks);
            head = other.head;
            forward = other.forward;
            turns = other.turns;
        }

        void renew() {
            inks.fill(settings.at(INK));
            head = 0;
            forward = true;
        }

        /** Gives the ink for one letter and moves on. */
        int feed() {
            int ink = inks.at(head);
            inks.put(head, Math.max(0, ink - settings.at(WEAR)));
            int next = forward ? head + 1 : head - 1;
            if (next < 0 || next >= settings.at(LENGTH)) {
                forward = !forward;
                turns++;
            } else {
                head = next;
            }
            return ink;
        }

        int allInk() {
            int sum = 0;
            for (int place = 0; place < settings.at(LENGTH); place++) {
                sum += inks.at(place);
            }
            return sum;
        }

        int dryPlaces() {
            int dry = 0;
            for (int place = 0; place < settings.at(LENGTH); place++) {
                if (inks.at(place) == 0) {
                    dry++;
                }
            }
            return dry;
        }
    }

    private static final class Page {
        private final Row settings;
        private final Row signs = new Row(MOST_LINES * MOST_COLUMNS);
        private final Row shades = new Row(MOST_LINES * MOST_COLUMNS);

        Page(Row settings) {
            this.settings = settings;
        }

        void copyFrom(Page other) {
            signs.copyFrom(other.signs);
            shades.copyFrom(other.shades);
        }

        void clear() {
            signs.fill(BLANK);
            shades.fill(0);
        }

        int placeOf(int line, int column) {
            return line * settings.at(WIDTH) + column;
        }

        boolean isEmpty(int place) {
            return signs.at(place) == BLANK;
        }

        void print(int place, int letter, int shade) {
            signs.put(place, letter);
            shades.put(place, Math.min(DARKEST, shades.at(place) + shade));
        }

        private int places() {
            return settings.at(LINES) * settings.at(WIDTH);
        }

        int endOf(int line) {
            for (int column = settings.at(WIDTH) - 1; column >= 0; column--) {
                if (!isEmpty(placeOf(line, column))) {
                    return column + 1;
                }
            }
            return 0;
        }

        int wordsIn(int line) {
            int found = 0;
            boolean inside = false;
            for (int column = 0; column < settings.at(WIDTH); column++) {
                boolean filled = !isEmpty(placeOf(line, column));
                if (filled && !inside) {
                    found++;
                }
                inside = filled;
            }
            return found;
        }

        int placesWith(int letter) {
            int found = 0;
            for (int place = 0; place < places(); place++) {
                if (signs.at(place) == letter) {
                    found++;
                }
            }
            return found;
        }

        int filledPlaces() {
            return places() - placesWith(BLANK);
        }

        int allDarkness() {
            int sum = 0;
            for (int place = 0; place < places(); place++) {
                sum += shades.at(place);
            }
            return sum;
        }

        int palestPlace() {
            int palest = NONE;
            for (int place = 0; place < places(); place++) {
                if (!isEmpty(place) && (palest == NONE || shades.at(place) < shades.at(palest))) {
                    palest = place;
                }
            }
            return palest;
        }
    }

    private static final class Carriage {
        private final Row settings;
        private final Row stops = new Row(MOST_COLUMNS);
        private int line;
        private int column;
        private boolean released;

        Carriage(Row settings) {
            this.settings = settings;
        }

        void copyFrom(Carriage other) {
            stops.copyFrom(other.stops);
            line = other.line;
            column = other.column;
            released = other.released;
        }

        void goHome() {
            goToLine(0);
        }

        void goToLine(int next) {
            line = next;
            column = settings.at(LEFT);
            released = false;
        }

        boolean stopsAt(int at) {
            return stops.at(at) != 0;
        }

        int stopsSet() {
            int found = 0;
            for (int at = 0; at < settings.at(WIDTH); at++) {
                if (stopsAt(at)) {
                    found++;
                }
            }
            return found;
        }

        boolean locksAt(int at) {
            return at >= settings.at(WIDTH) || at > settings.at(RIGHT) && !released;
        }

        int bellColumn() {
            return settings.at(RIGHT) - settings.at(BELL);
        }

        // The column of the bell is never behind RIGHT, so no lock stands before it.
        int spacesToBell() {
            return column < bellColumn() ? bellColumn() - column : NONE;
        }

        int tabFrom(int at) {
            for (int stop = at + 1; stop < settings.at(WIDTH); stop++) {
                if (stopsAt(stop)) {
                    return stop;
                }
            }
            return Math.max(at, settings.at(RIGHT));
        }

        int backFrom(int at) {
            boolean stays = at == 0 || at == settings.at(LEFT) && !released;
            return stays ? at : at - 1;
        }

        int fewestKeysTo(int target, Row reach) {
            reach.fill(NONE);
            reach.put(column, 0);
            int width = settings.at(WIDTH);
            for (int keys = 0; keys <= width && reach.at(target) == NONE; keys++) {
                for (int at = 0; at <= width; at++) {
                    if (reach.at(at) == keys) {
                        reachFrom(at, keys + 1, reach);
                    }
                }
            }
            return reach.at(target);
        }

        private void reachFrom(int at, int keys, Row reach) {
            if (!locksAt(at)) {
                reachOnce(at + 1, keys, reach);
            }
            reachOnce(tabFrom(at), keys, reach);
            reachOnce(backFrom(at), keys, reach);
        }

        private static void reachOnce(int at, int keys, Row reach) {
            if (reach.at(at) == NONE) {
                reach.put(at, keys);
            }
        }
    }

    private static final class Bars {
        private static final int NEVER = -1;

        private final Row settings;
        private final Row letters = new Row(MOST_BARS);
        private final Row angles = new Row(MOST_BARS);
        // NEVER also for a bar that was freed, for it is back whatever its rise becomes.
        private final Row struckAt = new Row(MOST_BARS);
        private final Row strikes = new Row(MOST_BARS);
        private int number;
        private int latest;
        private int firstJammed;
        private int secondJammed;

        Bars(Row settings) {
            this.settings = settings;
        }

        void copyFrom(Bars other) {
            letters.copyFrom(other.letters);
            angles.copyFrom(other.angles);
            struckAt.copyFrom(other.struckAt);
            strikes.copyFrom(other.strikes);
            number = other.number;
            latest = other.latest;
            firstJammed = other.firstJammed;
            secondJammed = other.secondJammed;
        }

        void clear() {
            struckAt.fill(NEVER);
            strikes.fill(0);
            number = 0;
            latest = NONE;
            firstJammed = NONE;
            secondJammed = NONE;
        }

        void add(int letter, int angle) {
            letters.put(number, letter);
            angles.put(number, angle);
            number++;
        }

        int withLetter(int letter) {
            int small = isCapital(letter) ? letter - 'A' + 'a' : letter;
            for (int bar = 0; bar < number; bar++) {
                if (letters.at(bar) == small) {
                    return bar;
                }
            }
            return NONE;
        }

        int riseOf(int bar) {
            return settings.at(RISE) + Math.abs(angles.at(bar) - 90) / 10;
        }

        int backAt(int bar) {
            int struck = struckAt.at(bar);
            return struck == NEVER ? 0 : struck + 2 * riseOf(bar);
        }

        int notBackAt(int time) {
            int found = 0;
            for (int bar = 0; bar < number; bar++) {
                if (time < backAt(bar)) {
                    found++;
                }
            }
            return found;
        }

        boolean areJammed() {
            return firstJammed != NONE;
        }

        boolean isJammed(int bar) {
            return bar == firstJammed || bar == secondJammed;
        }

        /** The reason for which a bar can't be struck at a time, of those that lie in the bars' times. */
        int strikeFault(int bar, int time) {
            if (time < backAt(bar)) {
                return NOT_BACK;
            }
            if (latest == NONE || latest == bar || time >= backAt(latest)) {
                return 0;
            }
            int gap = time + riseOf(bar) - struckAt.at(latest) - riseOf(latest);
            return Math.abs(gap) < roomOf(bar, latest) ? GETS_JAMMED : 0;
        }

        private int roomOf(int bar, int other) {
            int apart = Math.abs(angles.at(bar) - angles.at(other));
            return settings.at(CLEAR) + Math.max(0, settings.at(NEAR) - apart);
        }

        void noteStrike(int bar, int time) {
            struckAt.put(bar, time);
            strikes.put(bar, strikes.at(bar) + 1);
            latest = bar;
        }

        void jamWithLatest(int bar) {
            firstJammed = bar;
            secondJammed = latest;
        }

        void free() {
            struckAt.put(firstJammed, NEVER);
            struckAt.put(secondJammed, NEVER);
            firstJammed = NONE;
            secondJammed = NONE;
        }

        int leastPace(int first, int second) {
            int back = 2 * riseOf(first);
            int later = riseOf(second) - riseOf(first);
            int room = roomOf(first, second);
            for (int pace = 1; pace <= MOST_PACE; pace++) {
                boolean clears = first != second && Math.abs(pace + later) >= room;
                if (pace >= back || clears) {
                    return pace;
                }
            }
            return NONE;
        }

        int slowestPair() {
            int worst = NONE;
            int worstPace = 0;
            for (int first = 0; first < number; first++) {
                for (int second = 0; second < number; second++) {
                    int pace = leastPace(first, second);
                    int weight = pace == NONE ? MOST_PACE + 1 : pace;
                    if (weight > worstPace) {
                        worstPace = weight;
                        worst = 100 * first + second;
                    }
                }
            }
            return worst;
        }

        int withGreatestRise() {
            int slowest = NONE;
            for (int bar = 0; bar < number; bar++) {
                if (slowest == NONE || riseOf(bar) > riseOf(slowest)) {
                    slowest = bar;
                }
            }
            return slowest;
        }
    }

    /** All that is told of a machine, as it is kept for undo and in a slot. */
    private static final class Machine {
        private final Row settings = new Row(SETTINGS);
        private final Ribbon ribbon = new Ribbon(settings);
        private final Page page = new Page(settings);
        private final Carriage carriage = new Carriage(settings);
        private final Bars bars = new Bars(settings);
        private final Row tally = new Row(COUNTS);
        private int time;
        private int reason;
        private int reasonAt;
        // Only a trial is asked for it, and sets it ahead, so that it is not kept.
        private int lastShade;

        void copyFrom(Machine other) {
            copyMotionFrom(other);
            ribbon.copyFrom(other.ribbon);
            page.copyFrom(other.page);
            tally.copyFrom(other.tally);
            reason = other.reason;
            reasonAt = other.reasonAt;
        }

        void copyMotionFrom(Machine other) {
            settings.copyFrom(other.settings);
            carriage.copyFrom(other.carriage);
            bars.copyFrom(other.bars);
            time = other.time;
        }

        /** Takes the bars and the tab stops away; a text sets every setting anew. */
        void clear() {
            carriage.stops.fill(0);
            bars.clear();
        }

        /** Puts all behind its settings, bars and tab stops to where it is at first. */
        void begin() {
            settings.put(SPACING, 1);
            ribbon.renew();
            ribbon.turns = 0;
            page.clear();
            carriage.goHome();
            tally.fill(0);
            time = 0;
            reason = 0;
            reasonAt = NONE;
        }

        private void addTo(int what, int more) {
            tally.put(what, tally.at(what) + more);
        }

        private void startKey() {
            time += settings.at(PACE);
            addTo(PRESSED, 1);
        }

        private int endKey(int fault) {
            addTo(FAILED, fault == 0 ? 0 : 1);
            return fault;
        }

        /** Keeps what came of a key that was pressed by itself. */
        int noteKey(int fault) {
            reason = fault;
            reasonAt = NONE;
            return fault;
        }

        /** The reason that stands before a key is looked at by itself; the lock stops only keys that go on. */
        int standingFault(boolean goesOn) {
            if (bars.areJammed()) {
                return IS_JAMMED;
            }
            return goesOn && carriage.locksAt(carriage.column) ? IS_LOCKED : 0;
        }

        int letterKey(int bar, boolean shift) {
            startKey();
            int fault = standingFault(true);
            if (fault == 0) {
                fault = bars.strikeFault(bar, time);
            }
            if (fault == 0) {
                printLetter(bar, shift);
            } else if (fault == GETS_JAMMED) {
                bars.jamWithLatest(bar);
                addTo(JAMS, 1);
            }
            return endKey(fault);
        }

        private void printLetter(int bar, boolean shift) {
            bars.noteStrike(bar, time);
            lastShade = ribbon.feed();
            int place = page.placeOf(carriage.line, carriage.column);
            addTo(PRINTED, 1);
            addTo(OVERPRINTED, page.isEmpty(place) ? 0 : 1);
            int small = bars.letters.at(bar);
            page.print(place, shift ? small - 'a' + 'A' : small, lastShade);
            moveOn();
        }

        private void moveOn() {
            carriage.column++;
            addTo(RINGS, carriage.column == carriage.bellColumn() ? 1 : 0);
        }

        int plainKey(int key) {
            startKey();
            int fault = plainFault(key);
            if (fault == 0) {
                doPlainKey(key);
            }
            return endKey(fault);
        }

        private int plainFault(int key) {
            if (key == RELEASE_KEY || key == FREE_KEY) {
                return 0;
            }
            int fault = standingFault(key == SPACE_KEY);
            if (fault == 0 && key == RETURN_KEY && nextLine() >= settings.at(LINES)) {
                return NO_LINE;
            }
            return fault;
        }

        private int nextLine() {
            return carriage.line + settings.at(SPACING);
        }

        private void doPlainKey(int key) {
            switch (key) {
                case SPACE_KEY:
                    addTo(SPACES, 1);
                    moveOn();
                    break;
                case TAB_KEY:
                    addTo(TABS, 1);
                    carriage.column = carriage.tabFrom(carriage.column);
                    break;
                case BACK_KEY:
                    addTo(BACKS, 1);
                    carriage.column = carriage.backFrom(carriage.column);
                    break;
                case RETURN_KEY:
                    addTo(RETURNS, 1);
                    carriage.goToLine(nextLine());
                    break;
                case RELEASE_KEY:
                    carriage.released = true;
                    break;
                default:
                    bars.free();
                    time += FREEING_TIME;
                    break;
            }
        }

        /** Types up to the first byte that fails; as each one before it is done, its index is their number. */
        int typeText(Row text, int n) {
            for (int i = 0; i < n; i++) {
                int letter = text.at(i);
                int bar = bars.withLetter(letter);
                int key = keyOf(letter);
                int fault = 0;
                if (bar != NONE) {
                    fault = letterKey(bar, isCapital(letter));
                } else if (key != NONE) {
                    fault = plainKey(key);
                } else if (isDigit(letter)) {
                    time += 10 * (letter - '0');
                } else {
                    fault = NO_KEY;
                }
                if (fault != 0) {
                    reason = fault;
                    reasonAt = i;
                    return i;
                }
            }
            reason = 0;
            reasonAt = NONE;
            return n;
        }
    }

    /** The latest changes, each as the machine was before it, in a ring. */
    private static final class History {
        private final Machine[] kept = new Machine[MOST_UNDONE];
        private int oldest;
        private int size;

        History() {
            for (int i = 0; i < kept.length; i++) {
                kept[i] = new Machine();
            }
        }

        void clear() {
            size = 0;
        }

        void keep(Machine machine) {
            if (size == MOST_UNDONE) {
                oldest = (oldest + 1) % MOST_UNDONE;
                size--;
            }
            Machine place = placeOf(size);
            if (place != null) {
                place.copyFrom(machine);
                size++;
            }
        }

        void takeLatest(Machine machine) {
            Machine place = placeOf(size - 1);
            if (place != null) {
                machine.copyFrom(place);
                size--;
            }
        }

        private Machine placeOf(int age) {
            int i = (oldest + age) % MOST_UNDONE;
            return i >= 0 && i < kept.length ? kept[i] : null;
        }
    }

    private static final class Slot {
        private final Machine machine = new Machine();
        private boolean filled;
    }

    private static final class Parser {
        private static final int END = 0;
        private static final int WORD = 1;
        private static final int NUMBER = 2;
        private static final int SEMICOLON = 3;
        private static final int BAD = 4;

        private static final int MISPLACED = 1;
        private static final int OUT_OF_BOUNDS = 2;
        private static final int TAKEN = 3;

        private static final int MOST_LETTERS = 7;
        private static final int MOST_DIGITS = 3;

        private final Row source;
        private final Machine target;
        private int end;
        private int cursor;
        // The token that is looked at.
        private int kind;
        private int start;
        private int value;
        // The first error that was found; behind it no token is read any more.
        private int code;
        private int position = NONE;

        Parser(Row source, Machine target) {
            this.source = source;
            this.target = target;
        }

        void parse(int n) {
            end = n;
            cursor = 0;
            code = 0;
            position = NONE;
            target.clear();
            readToken();
            takeWord("machine");
            takeSettings(WIDTH, BELL);
            takeSemicolon();
            takeWord("speed");
            takeSettings(PACE, NEAR);
            takeSemicolon();
            takeWord("ribbon");
            takeSettings(LENGTH, WEAR);
            for (int line = 0; line < end && code == 0 && kind != END; line++) {
                takeSemicolon();
                if (isWord("bar")) {
                    takeBar();
                } else if (isWord("tab")) {
                    takeTab();
                } else {
                    fail(MISPLACED);
                }
            }
            target.begin();
        }

        private void takeBar() {
            readToken();
            boolean isLetter = kind == WORD && cursor - start == 1;
            int letter = source.at(start);
            if (!isLetter) {
                fail(MISPLACED);
            } else if (target.bars.withLetter(letter) != NONE) {
                fail(TAKEN);
            }
            readToken();
            int angle = takeNumber(0, MOST_ANGLE);
            target.bars.add(letter, angle);
        }

        private void takeTab() {
            readToken();
            requireNumber(0, target.settings.at(WIDTH) - 1);
            int column = value;
            if (target.carriage.stopsAt(column)) {
                fail(TAKEN);
            }
            readToken();
            target.carriage.stops.put(column, 1);
        }

        private void takeSettings(int first, int last) {
            for (int what = first; what <= last; what++) {
                int low = lowest(target.settings, what);
                int high = highest(target.settings, what);
                target.settings.put(what, takeNumber(low, high));
            }
        }

        private int takeNumber(int low, int high) {
            requireNumber(low, high);
            int taken = value;
            readToken();
            return taken;
        }

        private void requireNumber(int low, int high) {
            if (kind != NUMBER) {
                fail(MISPLACED);
            } else if (value < low || value > high) {
                fail(OUT_OF_BOUNDS);
            }
        }

        private void takeWord(String word) {
            if (!isWord(word)) {
                fail(MISPLACED);
            }
            readToken();
        }

        private void takeSemicolon() {
            if (kind != SEMICOLON) {
                fail(MISPLACED);
            }
            readToken();
        }

        private boolean isWord(String word) {
            if (kind != WORD || cursor - start != word.length()) {
                return false;
            }
            for (int i = 0; i < word.length(); i++) {
                if (source.at(start + i) != word.charAt(i)) {
                    return false;
                }
            }
            return true;
        }

        private void fail(int error) {
            if (code == 0) {
                code = error;
                position = start;
            }
        }

        private void readToken() {
            if (code != 0) {
                return;
            }
            while (cursor < end && source.at(cursor) == BLANK) {
                cursor++;
            }
            start = cursor;
            int first = source.at(cursor);
            if (cursor >= end) {
                kind = END;
            } else if (isSmall(first)) {
                readWord();
            } else if (isDigit(first)) {
                readNumber();
            } else {
                kind = first == ';' ? SEMICOLON : BAD;
                cursor++;
            }
        }

        private void readWord() {
            while (cursor < end && isSmall(source.at(cursor))) {
                cursor++;
            }
            kind = cursor - start <= MOST_LETTERS ? WORD : BAD;
        }

        private void readNumber() {
            value = 0;
            while (cursor < end && isDigit(source.at(cursor))) {
                value = 10 * value + source.at(cursor) - '0';
                cursor++;
            }
            kind = cursor - start <= MOST_DIGITS ? NUMBER : BAD;
        }
    }
}
