import java.util.ArrayDeque;
import java.util.ArrayList;
import java.util.Arrays;
import java.util.HashSet;
import java.util.List;
import java.util.Set;
import java.util.TreeMap;
import java.util.TreeSet;

/**
 * The document told once more, as slowly and plainly as its words go, for the random runs to be compared with.
 * It shares no code with the class. A place of the page that is empty has no entry in the maps.
 */
final class Model {

    static final class Bar {
        char letter;
        int angle;
        int strikes;
        boolean everStruck;
        boolean freed;
        int struckAt;
        boolean jammed;
    }

    /** What a change, a slot and a copy hold. */
    static final class State {
        int[] setting = new int[13];
        TreeSet<Integer> stops = new TreeSet<>();
        List<Bar> bars = new ArrayList<>();
        TreeMap<Integer, Character> signs = new TreeMap<>();
        TreeMap<Integer, Integer> shades = new TreeMap<>();
        int[] ink;
        int head;
        boolean forward = true;
        int line;
        int column;
        boolean released;
        int time;
        int latest = -1;
        int reason;
        int reasonAt = -1;
        int lastInk;
        int[] count = new int[14];

        State copy() {
            State s = new State();
            s.setting = setting.clone();
            s.stops = new TreeSet<>(stops);
            for (Bar b : bars) {
                Bar c = new Bar();
                c.letter = b.letter;
                c.angle = b.angle;
                c.strikes = b.strikes;
                c.everStruck = b.everStruck;
                c.freed = b.freed;
                c.struckAt = b.struckAt;
                c.jammed = b.jammed;
                s.bars.add(c);
            }
            s.signs = new TreeMap<>(signs);
            s.shades = new TreeMap<>(shades);
            s.ink = ink.clone();
            s.head = head;
            s.forward = forward;
            s.line = line;
            s.column = column;
            s.released = released;
            s.time = time;
            s.latest = latest;
            s.reason = reason;
            s.reasonAt = reasonAt;
            s.lastInk = lastInk;
            s.count = count.clone();
            return s;
        }

        int rise(int bar) {
            return setting[6] + (int) Math.floor(Math.abs(bars.get(bar).angle - 90) / 10.0);
        }

        boolean isBack(int bar, int at) {
            Bar b = bars.get(bar);
            return !b.everStruck || b.freed || at >= b.struckAt + rise(bar) + rise(bar);
        }

        boolean jamsNow(int bar, int at) {
            if (latest == -1 || latest == bar || isBack(latest, at)) {
                return false;
            }
            int apart = Math.abs(bars.get(bar).angle - bars.get(latest).angle);
            int room = setting[7] + (setting[8] > apart ? setting[8] - apart : 0);
            int reachOfLatest = bars.get(latest).struckAt + rise(latest);
            int reach = at + rise(bar);
            return reach - reachOfLatest < room && reachOfLatest - reach < room;
        }

        boolean anyJam() {
            return bars.stream().anyMatch(b -> b.jammed);
        }

        boolean locked(int at) {
            return at == setting[0] || at > setting[3] && !released;
        }

        int place() {
            return line * 1000 + column;
        }

        int fail(int why) {
            count[9]++;
            return why;
        }

        void next() {
            column++;
            if (column == setting[3] - setting[4]) {
                count[10]++;
            }
        }

        int letterReason(int bar, int at) {
            if (anyJam()) {
                return 1;
            }
            if (locked(column)) {
                return 2;
            }
            if (!isBack(bar, at)) {
                return 4;
            }
            return jamsNow(bar, at) ? 5 : 0;
        }

        int letterKey(int bar, boolean shift) {
            count[13]++;
            time += setting[5];
            int why = letterReason(bar, time);
            if (why == 5) {
                bars.get(bar).jammed = true;
                bars.get(latest).jammed = true;
                count[8]++;
            }
            if (why != 0) {
                return fail(why);
            }
            Bar b = bars.get(bar);
            b.everStruck = true;
            b.freed = false;
            b.struckAt = time;
            b.strikes++;
            latest = bar;
            lastInk = ink[head];
            count[3]++;
            if (signs.containsKey(place())) {
                count[12]++;
            }
            signs.put(place(), shift ? Character.toUpperCase(b.letter) : b.letter);
            shades.put(place(), Math.min(9, shades.getOrDefault(place(), 0) + lastInk));
            ink[head] = Math.max(0, ink[head] - setting[11]);
            int to = forward ? head + 1 : head - 1;
            if (to >= 0 && to < setting[9]) {
                head = to;
            } else {
                forward = !forward;
                count[11]++;
            }
            next();
            return 0;
        }

        int tabFrom(int at) {
            Integer stop = stops.higher(at);
            if (stop != null) {
                return stop;
            }
            return at < setting[3] ? setting[3] : at;
        }

        int backFrom(int at) {
            if (at == 0 || at == setting[2] && !released) {
                return at;
            }
            return at - 1;
        }

        int otherKey(int key) {
            count[13]++;
            time += setting[5];
            if (key <= 3 && anyJam()) {
                return fail(1);
            }
            switch (key) {
                case 0:
                    if (locked(column)) {
                        return fail(2);
                    }
                    count[4]++;
                    next();
                    return 0;
                case 1:
                    count[5]++;
                    column = tabFrom(column);
                    return 0;
                case 2:
                    count[6]++;
                    column = backFrom(column);
                    return 0;
                case 3:
                    if (line + setting[12] > setting[1] - 1) {
                        return fail(6);
                    }
                    count[7]++;
                    line += setting[12];
                    column = setting[2];
                    released = false;
                    return 0;
                case 4:
                    released = true;
                    return 0;
                default:
                    for (Bar b : bars) {
                        if (b.jammed) {
                            b.jammed = false;
                            b.freed = true;
                        }
                    }
                    time += 100;
                    return 0;
            }
        }

        int barOf(int letter) {
            for (int i = 0; i < bars.size(); i++) {
                if (bars.get(i).letter == letter || Character.toUpperCase(bars.get(i).letter) == letter) {
                    return i;
                }
            }
            return -1;
        }

        int typeBytes(byte[] text, int n) {
            int done = 0;
            reason = 0;
            reasonAt = -1;
            lastInk = 0;
            for (int i = 0; i < n; i++) {
                int c = text[i] & 255;
                int why = 0;
                if (c >= '0' && c <= '9') {
                    time += (c - '0') * 10;
                } else if (" ><" .indexOf(c) >= 0 || "/^!".indexOf(c) >= 0) {
                    why = otherKey(" ></^!".indexOf(c));
                } else if (barOf(c) >= 0) {
                    why = letterKey(barOf(c), c < 'a');
                } else {
                    why = 3;
                }
                if (why != 0) {
                    reason = why;
                    reasonAt = i;
                    break;
                }
                done++;
            }
            return done;
        }

        int allInk() {
            return Arrays.stream(ink).sum();
        }
    }

    private final byte[] buffer = new byte[500];
    private int filled;
    private State now;
    private final ArrayDeque<State> past = new ArrayDeque<>();
    private final State[] slots = new State[2];
    private int parseError;
    private int errorPosition = -1;
    private String text = "";

    // ---- input

    int append(int... four) {
        if (filled + 20 > 500) {
            return -1;
        }
        for (int f : four) {
            buffer[filled++] = (byte) (f >>> 24);
            buffer[filled++] = (byte) (f >>> 16);
            buffer[filled++] = (byte) (f >>> 8);
            buffer[filled++] = (byte) f;
        }
        return filled;
    }

    private static final class TextError extends Exception {
        final int code;
        final int position;

        TextError(int code, int position) {
            this.code = code;
            this.position = position;
        }
    }

    private static final class Token {
        String text;
        int start;
        boolean good;
    }

    private List<Token> tokens(int n) {
        List<Token> all = new ArrayList<>();
        int i = 0;
        while (i < n) {
            int c = buffer[i] & 255;
            if (c == 32) {
                i++;
                continue;
            }
            Token t = new Token();
            t.start = i;
            String kind = c >= 'a' && c <= 'z' ? "[a-z]" : c >= '0' && c <= '9' ? "[0-9]" : null;
            StringBuilder s = new StringBuilder();
            if (kind == null) {
                s.append((char) c);
                i++;
                t.good = c == ';';
            } else {
                while (i < n && String.valueOf((char) (buffer[i] & 255)).matches(kind)) {
                    s.append((char) buffer[i++]);
                }
                t.good = s.length() <= (kind.equals("[a-z]") ? 7 : 3);
            }
            t.text = s.toString();
            all.add(t);
        }
        Token end = new Token();
        end.text = "";
        end.start = n;
        all.add(end);
        return all;
    }

    private static void want(Token t, String pattern) throws TextError {
        if (!t.good || !t.text.matches(pattern)) {
            throw new TextError(1, t.start);
        }
    }

    private static int number(Token t, int low, int high) throws TextError {
        want(t, "[0-9]+");
        int value = Integer.parseInt(t.text);
        if (value < low || value > high) {
            throw new TextError(2, t.start);
        }
        return value;
    }

    private State parse(int n) throws TextError {
        List<Token> all = tokens(n);
        int i = 0;
        State s = new State();
        int[] v = s.setting;
        v[12] = 1;
        want(all.get(i++), "machine");
        v[0] = number(all.get(i++), 10, 40);
        v[1] = number(all.get(i++), 1, 12);
        v[2] = number(all.get(i++), 0, v[0] - 2);
        v[3] = number(all.get(i++), v[2] + 1, v[0] - 1);
        v[4] = number(all.get(i++), 0, v[3] - v[2]);
        want(all.get(i++), ";");
        want(all.get(i++), "speed");
        v[5] = number(all.get(i++), 1, 999);
        v[6] = number(all.get(i++), 1, 99);
        v[7] = number(all.get(i++), 0, 99);
        v[8] = number(all.get(i++), 0, 99);
        want(all.get(i++), ";");
        want(all.get(i++), "ribbon");
        v[9] = number(all.get(i++), 5, 60);
        v[10] = number(all.get(i++), 1, 9);
        v[11] = number(all.get(i++), 0, 3);
        while (!all.get(i).text.isEmpty()) {
            want(all.get(i++), ";");
            want(all.get(i), "bar|tab");
            if (all.get(i++).text.equals("bar")) {
                Token letter = all.get(i++);
                want(letter, "[a-z]");
                if (s.barOf(letter.text.charAt(0)) >= 0) {
                    throw new TextError(3, letter.start);
                }
                Bar b = new Bar();
                b.letter = letter.text.charAt(0);
                b.angle = number(all.get(i++), 0, 180);
                s.bars.add(b);
            } else {
                Token column = all.get(i++);
                if (!s.stops.add(number(column, 0, v[0] - 1))) {
                    throw new TextError(3, column.start);
                }
            }
        }
        s.ink = new int[v[9]];
        Arrays.fill(s.ink, v[10]);
        s.column = v[2];
        return s;
    }

    int load(int n) {
        index(n >= 0 && n <= filled);
        filled = 0;
        try {
            State s = parse(n);
            now = s;
            past.clear();
            slots[0] = null;
            slots[1] = null;
            parseError = 0;
            errorPosition = -1;
            return s.bars.size();
        } catch (TextError e) {
            parseError = e.code;
            errorPosition = e.position;
            throw new IllegalArgumentException();
        }
    }

    int parseError() {
        return parseError;
    }

    int errorPosition() {
        return errorPosition;
    }

    int buffered() {
        return filled;
    }

    // ---- what there is

    int count(int what) {
        loaded();
        argument(what >= 0 && what <= 13);
        return what == 0 ? now.bars.size() : what == 1 ? now.stops.size() : what == 2 ? now.time : now.count[what];
    }

    int setting(int what) {
        loaded();
        argument(what >= 0 && what <= 12);
        return now.setting[what];
    }

    int carriage(int what) {
        loaded();
        argument(what >= 0 && what <= 3);
        return new int[] {now.line, now.column, now.locked(now.column) ? 1 : 0, now.released ? 1 : 0}[what];
    }

    int bar(int bar, int what) {
        loaded();
        index(isBar(bar));
        argument(what >= 0 && what <= 5);
        Bar b = now.bars.get(bar);
        int in = 0;
        while (!now.isBack(bar, now.time + in)) {
            in++;
        }
        return new int[] {b.letter, b.angle, now.rise(bar), b.strikes, in, b.jammed ? 1 : 0}[what];
    }

    int barOf(int letter) {
        loaded();
        return now.barOf(letter);
    }

    int latest() {
        loaded();
        return now.latest;
    }

    int ribbon(int place) {
        loaded();
        index(place >= 0 && place < now.ink.length);
        return now.ink[place];
    }

    int head(int what) {
        loaded();
        argument(what >= 0 && what <= 3);
        int dry = (int) Arrays.stream(now.ink).filter(i -> i == 0).count();
        return new int[] {now.head, now.forward ? 1 : 0, now.allInk(), dry}[what];
    }

    int sign(int line, int column) {
        loaded();
        index(isLine(line) && isColumn(column));
        return now.signs.getOrDefault(line * 1000 + column, ' ');
    }

    int darkness(int line, int column) {
        loaded();
        index(isLine(line) && isColumn(column));
        return now.shades.getOrDefault(line * 1000 + column, 0);
    }

    boolean isStop(int column) {
        loaded();
        index(isColumn(column));
        return now.stops.contains(column);
    }

    int reason() {
        loaded();
        return now.reason;
    }

    int reasonAt() {
        loaded();
        return now.reasonAt;
    }

    // ---- looks

    private String line(int line) {
        StringBuilder s = new StringBuilder();
        for (int c = 0; c < now.setting[0]; c++) {
            s.append(now.signs.getOrDefault(line * 1000 + c, ' ').charValue());
        }
        return s.toString().stripTrailing();
    }

    int lineLength(int line) {
        loaded();
        index(isLine(line));
        return line(line).length();
    }

    int words(int line) {
        loaded();
        index(isLine(line));
        String s = line(line).trim();
        return s.isEmpty() ? 0 : s.split(" +").length;
    }

    int letters(int letter) {
        loaded();
        return (int) now.signs.values().stream().filter(c -> c == letter).count();
    }

    int palest() {
        loaded();
        int best = -1;
        int least = 10;
        for (int place : now.shades.keySet()) {
            if (now.shades.get(place) < least) {
                least = now.shades.get(place);
                best = now.setting[0] * (place / 1000) + place % 1000;
            }
        }
        return best;
    }

    double meanDarkness() {
        loaded();
        int sum = now.shades.values().stream().mapToInt(i -> i).sum();
        return now.shades.isEmpty() ? 0.0 : (double) sum / (double) now.shades.size();
    }

    float inkShare() {
        loaded();
        return (float) now.allInk() / (float) (now.setting[9] * now.setting[10]);
    }

    int slowest() {
        loaded();
        int best = -1;
        for (int b = now.bars.size() - 1; b >= 0; b--) {
            if (best < 0 || now.rise(b) >= now.rise(best)) {
                best = b;
            }
        }
        return best;
    }

    int nextStop(int column) {
        loaded();
        index(column >= 0 && column <= now.setting[0]);
        return now.tabFrom(column);
    }

    int bellIn() {
        loaded();
        State s = now.copy();
        s.bars.forEach(b -> b.jammed = false);
        int rings = s.count[10];
        for (int spaces = 1; spaces <= 50; spaces++) {
            s.otherKey(0);
            if (s.count[10] > rings) {
                return spaces;
            }
        }
        return -1;
    }

    // ---- what would be

    int wouldBe(int bar, boolean shift) {
        loaded();
        index(isBar(bar));
        return now.copy().letterKey(bar, shift);
    }

    int freeIn(int bar) {
        loaded();
        index(isBar(bar));
        for (int pace = 1; pace <= 999; pace++) {
            if (now.isBack(bar, now.time + pace) && !now.jamsNow(bar, now.time + pace)) {
                return pace;
            }
        }
        return -1;
    }

    int paceOf(int bar, int other) {
        loaded();
        index(isBar(bar) && isBar(other));
        for (int pace = 1; pace <= 999; pace++) {
            State s = now.copy();
            s.bars.forEach(b -> {
                b.jammed = false;
                b.everStruck = false;
            });
            s.latest = -1;
            s.column = 0;
            s.line = 0;
            s.setting[5] = pace;
            s.released = true;
            s.letterKey(bar, false);
            if (s.letterKey(other, false) == 0) {
                return pace;
            }
        }
        return -1;
    }

    int worstPair() {
        loaded();
        int worst = -1;
        int most = 0;
        for (int a = 0; a < now.bars.size(); a++) {
            for (int b = 0; b < now.bars.size(); b++) {
                int pace = paceOf(a, b) == -1 ? 1000 : paceOf(a, b);
                if (pace > most) {
                    most = pace;
                    worst = 100 * a + b;
                }
            }
        }
        return worst;
    }

    int wouldType(int n, int what) {
        loaded();
        index(n >= 0 && n <= filled);
        argument(what >= 0 && what <= 5);
        State s = now.copy();
        int done = s.typeBytes(buffer, n);
        return new int[] {done, s.reason, s.column, s.line, s.count[10] - now.count[10], s.lastInk}[what];
    }

    int paceFor(int n) {
        loaded();
        index(n >= 0 && n <= filled);
        for (int pace = 1; pace <= 300; pace++) {
            State s = now.copy();
            s.setting[5] = pace;
            s.typeBytes(buffer, n);
            if (s.reason != 4 && s.reason != 5) {
                return pace;
            }
        }
        return -1;
    }

    int keysTo(int column) {
        loaded();
        index(column >= 0 && column <= now.setting[0]);
        Set<Integer> seen = new HashSet<>(Set.of(now.column));
        for (int keys = 0; keys <= 100; keys++) {
            if (seen.contains(column)) {
                return keys;
            }
            for (int at : new ArrayList<>(seen)) {
                seen.add(now.tabFrom(at));
                seen.add(now.backFrom(at));
                if (!now.locked(at)) {
                    seen.add(at + 1);
                }
            }
        }
        return -1;
    }

    int printsLeft() {
        loaded();
        State s = now.copy();
        s.bars.clear();
        Bar b = new Bar();
        b.letter = 'a';
        s.bars.add(b);
        for (int prints = 0; prints < 2000; prints++) {
            s.column = 0;
            s.line = 0;
            s.released = true;
            s.latest = -1;
            s.bars.get(0).everStruck = false;
            s.letterKey(0, false);
            if (s.lastInk == 0) {
                return prints;
            }
        }
        return -1;
    }

    // ---- texts

    int writeLine(int line) {
        loaded();
        index(isLine(line));
        text = line(line);
        return text.length();
    }

    int writeShades(int line) {
        loaded();
        index(isLine(line));
        StringBuilder s = new StringBuilder();
        for (int c = 0; c < now.setting[0]; c++) {
            Integer shade = now.shades.get(line * 1000 + c);
            s.append(shade == null ? " " : shade.toString());
        }
        text = s.toString().stripTrailing();
        return text.length();
    }

    int writeRuler() {
        loaded();
        char[] c = new char[now.setting[0]];
        Arrays.fill(c, '.');
        now.stops.forEach(s -> c[s] = 'T');
        c[now.setting[3]] = 'R';
        c[now.setting[2]] = 'L';
        if (now.column < c.length) {
            c[now.column] = 'V';
        }
        text = new String(c);
        return c.length;
    }

    int textByte(int i) {
        index(i >= 0 && i < text.length());
        return text.charAt(i);
    }

    // ---- changes

    private void change() {
        past.push(now.copy());
        if (past.size() > 8) {
            past.removeLast();
        }
    }

    int strike(int bar, boolean shift) {
        loaded();
        index(isBar(bar));
        change();
        now.reason = now.letterKey(bar, shift);
        now.reasonAt = -1;
        return now.reason;
    }

    int press(int key) {
        loaded();
        argument(key >= 0 && key <= 5);
        change();
        now.reason = now.otherKey(key);
        now.reasonAt = -1;
        return now.reason;
    }

    int type(int n) {
        loaded();
        index(n >= 0 && n <= filled);
        change();
        filled = 0;
        return now.typeBytes(buffer, n);
    }

    boolean setStop(int column, boolean is) {
        loaded();
        index(isColumn(column));
        change();
        return is ? !now.stops.add(column) : now.stops.remove(column);
    }

    int setMargin(boolean right, int column) {
        loaded();
        int[] v = now.setting;
        if (right) {
            argument(column >= v[2] + 1 && column <= v[0] - 1 && column >= v[2] + v[4]);
        } else {
            argument(column >= 0 && column <= v[3] - 1 && column <= v[3] - v[4]);
        }
        change();
        int was = now.setting[right ? 3 : 2];
        now.setting[right ? 3 : 2] = column;
        return was;
    }

    int set(int what, int value) {
        loaded();
        int[] v = now.setting;
        switch (what) {
            case 4:
                argument(value >= 0 && value <= v[3] - v[2]);
                break;
            case 5:
                argument(value >= 1 && value <= 999);
                break;
            case 6:
                argument(value >= 1 && value <= 99);
                break;
            case 7:
            case 8:
                argument(value >= 0 && value <= 99);
                break;
            case 11:
                argument(value >= 0 && value <= 3);
                break;
            case 12:
                argument(value >= 1 && value <= 3);
                break;
            default:
                argument(false);
                break;
        }
        change();
        int was = now.setting[what];
        now.setting[what] = value;
        return was;
    }

    int rest(int time) {
        loaded();
        argument(time >= 1 && time <= 9999);
        change();
        now.time += time;
        int out = 0;
        for (int b = 0; b < now.bars.size(); b++) {
            out += now.isBack(b, now.time) ? 0 : 1;
        }
        return out;
    }

    int newRibbon() {
        loaded();
        change();
        int was = now.allInk();
        Arrays.fill(now.ink, now.setting[10]);
        now.head = 0;
        now.forward = true;
        return was;
    }

    int newPage() {
        loaded();
        change();
        int was = now.signs.size();
        now.signs.clear();
        now.shades.clear();
        now.line = 0;
        now.column = now.setting[2];
        now.released = false;
        return was;
    }

    int undo() {
        state(!past.isEmpty());
        now = past.pop();
        return past.size();
    }

    int undoable() {
        return past.size();
    }

    int save(int slot) {
        loaded();
        index(slot == 0 || slot == 1);
        slots[slot] = now.copy();
        return now.time;
    }

    int restore(int slot) {
        index(slot == 0 || slot == 1);
        state(slots[slot] != null);
        now = slots[slot].copy();
        past.clear();
        return now.time;
    }

    // ---- what calls require

    private boolean isBar(int bar) {
        return bar >= 0 && bar < now.bars.size();
    }

    private boolean isLine(int line) {
        return line >= 0 && line < now.setting[1];
    }

    private boolean isColumn(int column) {
        return column >= 0 && column < now.setting[0];
    }

    private void loaded() {
        state(now != null);
    }

    boolean isEmpty() {
        return now == null;
    }

    private static void state(boolean right) {
        if (!right) {
            throw new IllegalStateException();
        }
    }

    private static void index(boolean right) {
        if (!right) {
            throw new IndexOutOfBoundsException();
        }
    }

    private static void argument(boolean right) {
        if (!right) {
            throw new IllegalArgumentException();
        }
    }
}
