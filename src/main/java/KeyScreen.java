import java.util.Arrays;

/** A screen editor worked by keys; what each call promises stands in DOC.md. */
public final class KeyScreen {
    private static final int COMMAND = 0;
    private static final int INSERT = 1;
    private static final int PROMPT = 2;

    private static final int BACK = 8;
    private static final int ENTER = 10;
    private static final int ESC = 27;
    private static final int BLANK = 32;
    private static final int LAST_CODE = 126;

    private static final int MOST_LINES = 10;
    private static final int MOST_LETTERS = 20;
    private static final int MOST_DIGITS = 2;
    private static final int MOST_COMMAND_KEYS = 4;
    private static final int MOST_REPEATED_KEYS = 8;
    private static final int MOST_ASKED = 30;
    private static final int MOST_ATOMS = 8;
    private static final int MOST_JOBS = 3;

    private static final int ROWS = 5;
    private static final int LEAST_WIDTH = 5;
    private static final int MOST_WIDTH = 20;
    private static final int USUAL_WIDTH = 10;
    private static final int CODES_TO_MOVE = 3;

    /** A place is its line times this and its column, so places compare as the document orders them. */
    private static final int LINE_STEP = 32;
    private static final int NONE = -1;
    private static final int TOO_LONG = -2;

    private final Desk desk;
    private final Disk disk;
    private final Window window;
    private final Keyboard keyboard;

    public KeyScreen(int width) {
        desk = new Desk();
        disk = new Disk();
        window = new Window(isWidth(width) ? width : USUAL_WIDTH);
        keyboard = new Keyboard(desk, new CommandLine(desk, disk));
    }

    public int key(int c) {
        if (!isKey(c)) {
            return NONE;
        }
        boolean taken;
        switch (keyboard.mode) {
            case INSERT:
                taken = keyboard.insert(c);
                break;
            case PROMPT:
                taken = keyboard.ask(c);
                break;
            default:
                taken = keyboard.isRepeat(c) ? keyboard.repeat() : keyboard.command(c);
                break;
        }
        window.show(desk.text);
        return taken ? 0 : 1;
    }

    public boolean resize(int w) {
        if (!isWidth(w)) {
            return false;
        }
        window.wipe(w);
        window.show(desk.text);
        return true;
    }

    public int sync() {
        return disk.writeBlock();
    }

    public int crash() {
        desk.reset();
        keyboard.reset();
        disk.recover(desk.text);
        window.topLine = 0;
        window.show(desk.text);
        return desk.text.count;
    }

    public int mode() {
        return keyboard.mode;
    }

    public int lines() {
        return desk.text.count;
    }

    public int length(int line) {
        return desk.text.sizeOf(line);
    }

    public int letter(int line, int column) {
        return desk.text.codeAt(line, column);
    }

    public int cursor() {
        return desk.text.cursorLine * LINE_STEP + desk.text.cursorColumn;
    }

    public int buffer() {
        return desk.heldLines;
    }

    public int held(int i, int column) {
        return desk.held.codeAt(i, column);
    }

    public int file() {
        return disk.written.count == 0 ? NONE : disk.written.count;
    }

    public int stored(int line, int column) {
        return disk.written.codeAt(line, column);
    }

    public int cell(int row, int column) {
        return window.codeAt(row, column);
    }

    public int top() {
        return window.topLine;
    }

    public int sent() {
        return window.sentCodes;
    }

    private static boolean isKey(int c) {
        return c >= BLANK && c <= LAST_CODE || c == ESC || c == ENTER || c == BACK;
    }

    private static boolean isWidth(int w) {
        return w >= LEAST_WIDTH && w <= MOST_WIDTH;
    }

    /**
     * Up to ten lines of up to twenty codes, and a cursor, which matters for the text and the OTHER alone.
     * One without lines stands for what was never put down.
     */
    private static final class Text {
        final int[] codes = new int[MOST_LINES * MOST_LETTERS];
        final int[] sizes = new int[MOST_LINES];
        int count;
        int cursorLine;
        int cursorColumn;

        void reset() {
            count = 1;
            sizes[0] = 0;
            cursorLine = 0;
            cursorColumn = 0;
        }

        void copy(Text from) {
            count = from.count;
            cursorLine = from.cursorLine;
            cursorColumn = from.cursorColumn;
            System.arraycopy(from.codes, 0, codes, 0, codes.length);
            System.arraycopy(from.sizes, 0, sizes, 0, sizes.length);
        }

        void copyLines(Text from, int first, int last) {
            if (first < 0 || last < first || last >= from.count) {
                return;
            }
            count = last - first + 1;
            System.arraycopy(from.codes, first * MOST_LETTERS, codes, 0, count * MOST_LETTERS);
            System.arraycopy(from.sizes, first, sizes, 0, count);
        }

        void copyLetters(Text from, int line, int start, int end) {
            if (line < 0 || line >= from.count || start < 0 || end < start || end > from.sizes[line]) {
                return;
            }
            count = 1;
            sizes[0] = end - start;
            System.arraycopy(from.codes, line * MOST_LETTERS + start, codes, 0, end - start);
        }

        int sizeOf(int line) {
            return line < 0 || line >= count ? NONE : sizes[line];
        }

        int codeAt(int line, int column) {
            if (line < 0 || line >= count || column < 0 || column >= sizes[line]) {
                return 0;
            }
            return codes[line * MOST_LETTERS + column];
        }

        void write(int line, int column, int code) {
            if (line >= 0 && line < count && column >= 0 && column < sizes[line]) {
                codes[line * MOST_LETTERS + column] = code;
            }
        }

        /** Makes room for empty lines; false when that would be too many. */
        boolean openLines(int at, int many) {
            if (at < 0 || at > count || many < 0 || count + many > MOST_LINES) {
                return false;
            }
            int below = count - at;
            System.arraycopy(codes, at * MOST_LETTERS, codes, (at + many) * MOST_LETTERS, below * MOST_LETTERS);
            System.arraycopy(sizes, at, sizes, at + many, below);
            Arrays.fill(sizes, at, at + many, 0);
            count += many;
            return true;
        }

        void closeLines(int first, int last) {
            if (first < 0 || last < first || last >= count) {
                return;
            }
            int below = count - last - 1;
            System.arraycopy(codes, (last + 1) * MOST_LETTERS, codes, first * MOST_LETTERS, below * MOST_LETTERS);
            System.arraycopy(sizes, last + 1, sizes, first, below);
            count -= last - first + 1;
        }

        /** Makes room for blanks; false when the line would be too long. */
        boolean openLetters(int line, int column, int many) {
            if (line < 0 || line >= count || column < 0 || column > sizes[line]
                    || many < 0 || sizes[line] + many > MOST_LETTERS) {
                return false;
            }
            int at = line * MOST_LETTERS + column;
            System.arraycopy(codes, at, codes, at + many, sizes[line] - column);
            Arrays.fill(codes, at, at + many, BLANK);
            sizes[line] += many;
            return true;
        }

        void closeLetters(int line, int start, int end) {
            if (line < 0 || line >= count || start < 0 || end < start || end > sizes[line]) {
                return;
            }
            int at = line * MOST_LETTERS;
            System.arraycopy(codes, at + end, codes, at + start, sizes[line] - end);
            sizes[line] -= end - start;
        }

        /** Puts the cursor on a character, as COMMAND wants it: never behind the last one. */
        void stand(int line, int column) {
            cursorLine = Math.max(0, Math.min(line, count - 1));
            cursorColumn = Math.max(0, Math.min(column, sizes[cursorLine] - 1));
        }

        /** With how many blanks a line begins. */
        int indentOf(int line) {
            int size = sizeOf(line);
            int blanks = 0;
            while (blanks < size && codes[line * MOST_LETTERS + blanks] == BLANK) {
                blanks++;
            }
            return blanks;
        }
    }

    /** What commands by keys and commands by lines work on: the text, the OTHER and the buffer. */
    private static final class Desk {
        final Text text = new Text();
        final Text other = new Text();
        final Text spare = new Text();
        final Text held = new Text();
        int heldLines;
        boolean hasOther;

        Desk() {
            text.count = 1;
            heldLines = NONE;
        }

        void reset() {
            text.reset();
            held.count = 0;
            heldLines = NONE;
            hasOther = false;
        }

        boolean exchange() {
            if (!hasOther) {
                return false;
            }
            spare.copy(text);
            text.copy(other);
            other.copy(spare);
            return true;
        }

        void holdLines(int first, int last) {
            held.copyLines(text, first, last);
            heldLines = held.count;
        }

        void holdLetters(int start, int end) {
            held.copyLetters(text, text.cursorLine, start, end);
            heldLines = 0;
        }

        void dropLines(int first, int last) {
            text.closeLines(first, last);
            if (text.count == 0) {
                text.reset();
            }
            text.stand(first, 0);
        }

        /** Leaves the first of the lines, but empty. */
        void emptyLines(int first, int last) {
            text.closeLetters(first, 0, text.sizeOf(first));
            text.closeLines(first + 1, last);
        }

        boolean canPut() {
            if (heldLines == 0) {
                return text.sizeOf(text.cursorLine) + held.sizeOf(0) <= MOST_LETTERS;
            }
            return heldLines > 0 && text.count + heldLines <= MOST_LINES;
        }

        void putLines(int at) {
            if (!text.openLines(at, heldLines)) {
                return;
            }
            System.arraycopy(held.codes, 0, text.codes, at * MOST_LETTERS, heldLines * MOST_LETTERS);
            System.arraycopy(held.sizes, 0, text.sizes, at, heldLines);
            text.stand(at, 0);
        }

        void putLetters(int column) {
            int many = held.sizeOf(0);
            if (!text.openLetters(text.cursorLine, column, many)) {
                return;
            }
            System.arraycopy(held.codes, 0, text.codes, text.cursorLine * MOST_LETTERS + column, many);
            text.stand(text.cursorLine, column + many - 1);
        }
    }

    /** Keys in the order they came; one more than there is room for is counted, but not kept. */
    private static final class Keys {
        final int[] codes;
        int count;

        Keys(int most) {
            codes = new int[Math.max(0, most)];
        }

        void add(int c) {
            if (count < codes.length) {
                codes[count] = c;
            }
            count = Math.min(count + 1, codes.length + 1);
        }

        void copy(Keys from) {
            count = Math.min(from.count, Math.min(from.codes.length, codes.length));
            System.arraycopy(from.codes, 0, codes, 0, count);
        }

        boolean isFull() {
            return count >= codes.length;
        }

        boolean isTooLong() {
            return count > codes.length;
        }
    }

    /** Where the motions lead. */
    private static final class Motion {
        /** The place where a motion leads, NONE when it rings; a count of 0 means that none was given. */
        static int lead(Text text, int c, int count) {
            int times = Math.max(1, count);
            int line = text.cursorLine;
            int column = text.cursorColumn;
            int lastColumn = Math.max(0, text.sizeOf(line) - 1);
            switch (c) {
                case 'h':
                    return column == 0 ? NONE : place(line, Math.max(0, column - times));
                case 'l':
                    return column >= lastColumn ? NONE : place(line, Math.min(lastColumn, column + times));
                case 'j':
                    return line + times >= text.count ? NONE : place(line + times, column);
                case 'k':
                    return line < times ? NONE : place(line - times, column);
                case '0':
                    return count > 0 ? NONE : place(line, 0);
                case '$':
                    return count > 0 ? NONE : place(line, lastColumn);
                case 'G':
                    return count > text.count ? NONE : place((count == 0 ? text.count : count) - 1, 0);
                case 'w':
                    return stopBehind(text, place(line, column), times);
                case 'b':
                    return stopBefore(text, place(line, column), times);
                default:
                    return NONE;
            }
        }

        private static int place(int line, int column) {
            return line * LINE_STEP + column;
        }

        private static int stopBehind(Text text, int from, int times) {
            int left = times;
            for (int at = from + 1; at < text.count * LINE_STEP; at++) {
                if (isStop(text, at / LINE_STEP, at % LINE_STEP)) {
                    left--;
                    if (left == 0) {
                        return at;
                    }
                }
            }
            return NONE;
        }

        private static int stopBefore(Text text, int from, int times) {
            int left = times;
            for (int at = from - 1; at >= 0; at--) {
                if (isStop(text, at / LINE_STEP, at % LINE_STEP)) {
                    left--;
                    if (left == 0) {
                        return at;
                    }
                }
            }
            return NONE;
        }

        private static boolean isStop(Text text, int line, int column) {
            int size = text.sizeOf(line);
            if (column >= size) {
                return column == 0 && size == 0;
            }
            int kind = kindOf(text.codeAt(line, column));
            return kind != 0 && (column == 0 || kind != kindOf(text.codeAt(line, column - 1)));
        }

        private static int kindOf(int code) {
            if (code == BLANK) {
                return 0;
            }
            boolean isWord = code >= 'a' && code <= 'z' || code >= 'A' && code <= 'Z'
                    || code >= '0' && code <= '9' || code == '_';
            return isWord ? 1 : 2;
        }
    }

    /** The modes, and what a key does in each of them. */
    private static final class Keyboard {
        private final Desk desk;
        private final Text text;
        private final CommandLine commandLine;
        private final Keys typed = new Keys(MOST_COMMAND_KEYS);
        private final Keys latest = new Keys(MOST_REPEATED_KEYS);
        private final Keys asked = new Keys(MOST_ASKED);
        int mode;
        private int count;
        private int digits;
        private int operator;
        private int insertStart;
        private boolean searching;
        private boolean repeating;

        Keyboard(Desk desk, CommandLine commandLine) {
            this.desk = desk;
            this.text = desk.text;
            this.commandLine = commandLine;
        }

        void reset() {
            mode = COMMAND;
            dropCommand();
            latest.count = 0;
            asked.count = 0;
        }

        private void dropCommand() {
            typed.count = 0;
            count = 0;
            digits = 0;
            operator = 0;
        }

        boolean isRepeat(int c) {
            return mode == COMMAND && c == '.' && typed.count == 0;
        }

        /** Works the latest change again; false when one of its keys rings. */
        boolean repeat() {
            if (latest.count == 0 || latest.isTooLong()) {
                return false;
            }
            boolean taken = true;
            repeating = true;
            for (int i = 0; i < latest.count; i++) {
                int c = latest.codes[i];
                if (!(mode == COMMAND ? command(c) : insert(c))) {
                    taken = false;
                    if (mode == COMMAND) {
                        break;
                    }
                }
            }
            repeating = false;
            return taken;
        }

        /** A key in COMMAND but for the period that repeats; false when it rings. */
        boolean command(int c) {
            typed.add(c);
            if (operator == 0 && isCountKey(c)) {
                count = count * 10 + c - '0';
                digits++;
                return true;
            }
            if (operator == 0 && isOperator(c)) {
                operator = c;
                return true;
            }
            boolean taken = true;
            int place = Motion.lead(text, c, count);
            if (operator != 0 && c != ESC) {
                taken = operate(c, place);
            } else if (c == 'x') {
                operator = 'd';
                taken = operate('l', place);
            } else if (place >= 0) {
                text.stand(place / LINE_STEP, place % LINE_STEP);
            } else if (c != ESC) {
                taken = digits == 0 && plain(c);
            }
            dropCommand();
            return taken;
        }

        private boolean isCountKey(int c) {
            return digits < MOST_DIGITS && c <= '9' && c >= (digits == 0 ? '1' : '0');
        }

        private static boolean isOperator(int c) {
            return c == 'd' || c == 'c' || c == 'y';
        }

        /** The operator with the key behind it, which leads to a place as a motion (NONE: it rings). */
        private boolean operate(int c, int place) {
            int times = Math.max(1, count);
            int line = text.cursorLine;
            int column = text.cursorColumn;
            int size = text.sizeOf(line);
            int toLine = place / LINE_STEP;
            boolean isInLine = place >= 0 && toLine == line;
            switch (c) {
                case 'j':
                case 'k':
                case 'G':
                    return place >= 0 && operateOnLines(Math.min(line, toLine), Math.max(line, toLine));
                case 'h':
                    return operateOnLetters(Math.max(0, column - times), column);
                case 'l':
                    return operateOnLetters(column, Math.min(size, column + times));
                case '0':
                    return place >= 0 && operateOnLetters(0, column);
                case '$':
                    return place >= 0 && operateOnLetters(column, size);
                case 'w':
                    return operateOnLetters(column, isInLine ? place % LINE_STEP : size);
                case 'b':
                    return isInLine && operateOnLetters(place % LINE_STEP, column);
                default:
                    return c == operator && line + times <= text.count
                            && operateOnLines(line, line + times - 1);
            }
        }

        private boolean operateOnLines(int first, int last) {
            desk.holdLines(first, last);
            if (operator == 'y') {
                return true;
            }
            beginChange();
            if (operator == 'd') {
                desk.dropLines(first, last);
            } else {
                desk.emptyLines(first, last);
                beginInsert(first, 0);
            }
            return true;
        }

        private boolean operateOnLetters(int start, int end) {
            if (start >= end) {
                return false;
            }
            desk.holdLetters(start, end);
            if (operator == 'y') {
                return true;
            }
            beginChange();
            text.closeLetters(text.cursorLine, start, end);
            if (operator == 'd') {
                text.stand(text.cursorLine, start);
            } else {
                beginInsert(text.cursorLine, start);
            }
            return true;
        }

        /** The commands that have no count. */
        private boolean plain(int c) {
            int size = text.sizeOf(text.cursorLine);
            switch (c) {
                case 'p':
                    return put(text.cursorLine + 1, Math.min(size, text.cursorColumn + 1));
                case 'P':
                    return put(text.cursorLine, text.cursorColumn);
                case 'i':
                    return insertFrom(text.cursorColumn);
                case 'a':
                    return insertFrom(Math.min(size, text.cursorColumn + 1));
                case 'I':
                    return insertFrom(text.indentOf(text.cursorLine));
                case 'A':
                    return insertFrom(size);
                case 'o':
                    return openLine(text.cursorLine + 1);
                case 'O':
                    return openLine(text.cursorLine);
                case 'u':
                    return desk.exchange();
                case ':':
                case '/':
                    searching = c == '/';
                    mode = PROMPT;
                    return true;
                default:
                    return false;
            }
        }

        private boolean put(int line, int column) {
            if (!desk.canPut()) {
                return false;
            }
            beginChange();
            if (desk.heldLines > 0) {
                desk.putLines(line);
            } else {
                desk.putLetters(column);
            }
            return true;
        }

        private boolean insertFrom(int column) {
            beginChange();
            beginInsert(text.cursorLine, column);
            return true;
        }

        private boolean openLine(int line) {
            if (text.count >= MOST_LINES) {
                return false;
            }
            beginChange();
            int blanks = text.indentOf(text.cursorLine);
            text.openLines(line, 1);
            text.openLetters(line, 0, blanks);
            beginInsert(line, blanks);
            return true;
        }

        /** Comes before anything of the text is changed. */
        private void beginChange() {
            desk.other.copy(text);
            desk.hasOther = true;
            if (!repeating) {
                latest.copy(typed);
            }
        }

        private void beginInsert(int line, int column) {
            mode = INSERT;
            insertStart = column;
            text.cursorLine = line;
            text.cursorColumn = column;
        }

        /** A key in INSERT; false when it rings. */
        boolean insert(int c) {
            boolean taken = edit(c);
            if (taken && !repeating) {
                latest.add(c);
            }
            return taken;
        }

        private boolean edit(int c) {
            switch (c) {
                case ESC:
                    mode = COMMAND;
                    text.cursorColumn = Math.max(0, text.cursorColumn - 1);
                    return true;
                case ENTER:
                    return partLine();
                case BACK:
                    if (text.cursorColumn <= insertStart) {
                        return false;
                    }
                    text.cursorColumn--;
                    text.closeLetters(text.cursorLine, text.cursorColumn, text.cursorColumn + 1);
                    return true;
                default:
                    if (!text.openLetters(text.cursorLine, text.cursorColumn, 1)) {
                        return false;
                    }
                    text.write(text.cursorLine, text.cursorColumn, c);
                    text.cursorColumn++;
                    return true;
            }
        }

        private boolean partLine() {
            int line = text.cursorLine;
            int column = text.cursorColumn;
            int blanks = Math.min(text.indentOf(line), column);
            int size = text.sizeOf(line);
            if (!text.openLines(line + 1, 1)) {
                return false;
            }
            text.openLetters(line + 1, 0, blanks + size - column);
            for (int i = column; i < size; i++) {
                text.write(line + 1, blanks + i - column, text.codeAt(line, i));
            }
            text.closeLetters(line, column, size);
            text.cursorLine = line + 1;
            text.cursorColumn = blanks;
            insertStart = blanks;
            return true;
        }

        /** A key in PROMPT; false when it rings. */
        boolean ask(int c) {
            if (c >= BLANK) {
                if (asked.isFull()) {
                    return false;
                }
                asked.add(c);
                return true;
            }
            if (c == BACK && asked.count > 0) {
                asked.count--;
                return true;
            }
            mode = COMMAND;
            boolean taken = c != ENTER
                    || (searching ? commandLine.search(asked) : commandLine.carryOut(asked));
            asked.count = 0;
            return taken;
        }
    }

    /** A pattern as a machine whose states are bits: bit i is set when the atoms before i have had their characters. */
    private static final class Pattern {
        /** For each code a bit for each atom that takes it. */
        private final int[] takers = new int[LAST_CODE + 1];
        private int starred;
        private int atoms;
        private boolean fromStart;
        private boolean toEnd;

        /** Reads codes[from] to before codes[to]; false when that is no pattern. */
        boolean read(int[] codes, int from, int to) {
            if (from < 0 || from >= to || to > codes.length) {
                return false;
            }
            Arrays.fill(takers, 0);
            starred = 0;
            fromStart = codes[from] == '^';
            int at = fromStart ? from + 1 : from;
            for (atoms = 0; atoms < MOST_ATOMS && at < to && !isEndSign(codes, at, to); atoms++) {
                at = codes[at] == '[' ? readSet(codes, at, to) : readSingle(codes, at, to);
                if (at < 0) {
                    return false;
                }
                if (at < to && codes[at] == '*') {
                    starred |= 1 << atoms;
                    at++;
                }
            }
            toEnd = at < to && isEndSign(codes, at, to);
            return toEnd || at == to;
        }

        private static boolean isEndSign(int[] codes, int at, int to) {
            return codes[at] == '$' && at == to - 1;
        }

        /** Reads an atom for one code or for any; answers the index behind it, NONE when there is no such atom. */
        private int readSingle(int[] codes, int at, int to) {
            int bit = 1 << atoms;
            int code = codes[at];
            if (code == '*' || code == '\\' && at + 1 >= to) {
                return NONE;
            }
            if (code == '.') {
                for (int any = BLANK; any <= LAST_CODE; any++) {
                    takers[any] |= bit;
                }
                return at + 1;
            }
            int behind = code == '\\' ? at + 2 : at + 1;
            takers[codes[behind - 1]] |= bit;
            return behind;
        }

        private int readSet(int[] codes, int at, int to) {
            int bit = 1 << atoms;
            int end = at + 2;
            while (end < to && codes[end] != ']') {
                end++;
            }
            if (end >= to) {
                return NONE;
            }
            boolean isReversed = codes[at + 1] == '^' && end > at + 2;
            int i = isReversed ? at + 2 : at + 1;
            while (i < end) {
                boolean isSpan = i + 2 < end && codes[i + 1] == '-';
                int high = isSpan ? codes[i + 2] : codes[i];
                for (int code = codes[i]; code <= high; code++) {
                    takers[code] |= bit;
                }
                i += isSpan ? 3 : 1;
            }
            for (int code = BLANK; isReversed && code <= LAST_CODE; code++) {
                takers[code] ^= bit;
            }
            return end + 1;
        }

        /** The end of the longest match at a place, NONE when there is no match. */
        int endOfMatch(Text text, int line, int column) {
            if (fromStart && column != 0) {
                return NONE;
            }
            int size = text.sizeOf(line);
            int states = 1;
            int end = NONE;
            for (int at = column; at <= size && states != 0; at++) {
                states = passStars(states);
                if (isOver(states, at == size)) {
                    end = at;
                }
                states = step(states, text.codeAt(line, at));
            }
            return end;
        }

        /** Whether there is a match at some place of a line: all places are tried in one go. */
        boolean isIn(Text text, int line) {
            int size = text.sizeOf(line);
            int states = 0;
            for (int at = 0; at <= size; at++) {
                states = passStars(fromStart && at != 0 ? states : states | 1);
                if (isOver(states, at == size)) {
                    return true;
                }
                states = step(states, text.codeAt(line, at));
            }
            return false;
        }

        /** An atom with a star may have no character at all. */
        private int passStars(int states) {
            int passed = states;
            for (int i = 0; i < atoms; i++) {
                passed |= (passed & starred & 1 << i) << 1;
            }
            return passed;
        }

        private boolean isOver(int states, boolean isAtEnd) {
            return (states >> atoms & 1) != 0 && (isAtEnd || !toEnd);
        }

        private int step(int states, int code) {
            int moved = code >= 0 && code <= LAST_CODE ? states & takers[code] : 0;
            return moved & starred | (moved & ~starred) << 1;
        }
    }

    /** Carries out the lines that were typed in PROMPT. */
    private static final class CommandLine {
        private final Desk desk;
        private final Text text;
        private final Disk disk;
        private final Pattern sought = new Pattern();
        private final Pattern noted = new Pattern();
        private final int[] built = new int[MOST_LETTERS];
        private int builtSize;
        private int[] codes;
        private int end;
        private int at;
        private boolean hasRange;
        private int first;
        private int last;
        private boolean isGlobal;
        private boolean isDelete;
        private boolean isEverywhere;
        private int newStart;
        private int newEnd;

        CommandLine(Desk desk, Disk disk) {
            this.desk = desk;
            this.text = desk.text;
            this.disk = disk;
            this.codes = built;
        }

        private void begin(Keys line) {
            codes = line.codes;
            end = Math.min(line.count, line.codes.length);
            at = 0;
        }

        /** A SEARCH line; false when it rings. */
        boolean search(Keys line) {
            begin(line);
            if (!sought.read(codes, 0, end)) {
                return false;
            }
            for (int turn = 0; turn <= text.count; turn++) {
                int seen = text.cursorLine + turn < text.count ? text.cursorLine + turn : text.cursorLine + turn - text.count;
                int from = turn == 0 ? text.cursorColumn + 1 : 0;
                int to = turn == text.count ? text.cursorColumn : text.sizeOf(seen);
                for (int column = from; column <= to; column++) {
                    if (sought.endOfMatch(text, seen, column) >= 0) {
                        text.stand(seen, column);
                        return true;
                    }
                }
            }
            return false;
        }

        /** A COMMAND line; false when it rings. */
        boolean carryOut(Keys line) {
            begin(line);
            if (end == 0) {
                return true;
            }
            if (!readRange()) {
                return false;
            }
            switch (here()) {
                case 0:
                    text.stand(last, 0);
                    return true;
                case 'w':
                    at++;
                    takeAllIfNoRange();
                    return at == end && disk.addJob(false, text, first, last);
                case 'p':
                    return readPreserve() && disk.addJob(true, text, 0, text.count - 1);
                default:
                    return readChange() && change();
            }
        }

        /** The code that is read next, 0 behind the last one. */
        private int here() {
            return at < end ? codes[at] : 0;
        }

        private void takeAllIfNoRange() {
            if (!hasRange) {
                first = 0;
                last = text.count - 1;
            }
        }

        private boolean readRange() {
            first = text.cursorLine;
            last = text.cursorLine;
            hasRange = false;
            int code = here();
            if (code == '%') {
                takeAllIfNoRange();
                hasRange = true;
                at++;
                return true;
            }
            if (code != '.' && code != '$' && code != '/' && !isDigit(code)) {
                return true;
            }
            hasRange = true;
            first = readAddress();
            last = first;
            if (first >= 0 && here() == ',') {
                at++;
                last = readAddress();
            }
            return first >= 0 && first <= last;
        }

        private static boolean isDigit(int code) {
            return code >= '0' && code <= '9';
        }

        /** The line that an address means, NONE when there is none. */
        private int readAddress() {
            int code = here();
            if (code == '/') {
                return readPattern(sought) ? nextLineWith(sought) : NONE;
            }
            at++;
            if (code == '.') {
                return text.cursorLine;
            }
            if (code == '$') {
                return text.count - 1;
            }
            if (!isDigit(code)) {
                return NONE;
            }
            int number = code - '0';
            if (isDigit(here())) {
                number = number * 10 + here() - '0';
                at++;
            }
            return number <= text.count ? number - 1 : NONE;
        }

        private int nextLineWith(Pattern pattern) {
            for (int turn = 1; turn <= text.count; turn++) {
                int seen = text.cursorLine + turn < text.count ? text.cursorLine + turn : text.cursorLine + turn - text.count;
                if (pattern.isIn(text, seen)) {
                    return seen;
                }
            }
            return NONE;
        }

        /** Reads a pattern with the / before and behind it. */
        private boolean readPattern(Pattern pattern) {
            if (here() != '/') {
                return false;
            }
            int start = at + 1;
            int slash = start;
            while (slash < end && codes[slash] != '/') {
                slash++;
            }
            at = slash + 1;
            return slash < end && pattern.read(codes, start, slash);
        }

        private boolean readPreserve() {
            return end - at == 3 && codes[at + 1] == 'r' && codes[at + 2] == 'e';
        }

        /** Reads d, s or g to the end of the line. */
        private boolean readChange() {
            isGlobal = here() == 'g';
            if (isGlobal) {
                at++;
                takeAllIfNoRange();
                if (!readPattern(noted)) {
                    return false;
                }
            }
            isDelete = here() == 'd';
            if (!isDelete && here() != 's') {
                return false;
            }
            at++;
            return (isDelete || readExchange()) && at == end;
        }

        private boolean readExchange() {
            if (!readPattern(sought)) {
                return false;
            }
            newStart = at;
            while (at < end && codes[at] != '/') {
                at += codes[at] == '\\' ? 2 : 1;
            }
            if (at >= end) {
                return false;
            }
            newEnd = at;
            at++;
            isEverywhere = here() == 'g';
            if (isEverywhere) {
                at++;
            }
            return true;
        }

        /** Does the change that was read, wholly or not at all. */
        private boolean change() {
            int notes = isGlobal ? noteLines() : 0;
            if (isGlobal && notes == 0) {
                return false;
            }
            desk.spare.copy(text);
            if (isDelete) {
                deleteLines(notes);
            } else {
                int changed = exchangeLines(notes);
                if (changed == TOO_LONG || changed == NONE && !isGlobal) {
                    text.copy(desk.spare);
                    return false;
                }
                if (changed >= 0) {
                    text.stand(changed, 0);
                }
            }
            desk.other.copy(desk.spare);
            desk.hasOther = true;
            return true;
        }

        /** A bit for each line of the range in which the pattern of g matches. */
        private int noteLines() {
            int notes = 0;
            for (int line = first; line <= last; line++) {
                if (noted.isIn(text, line)) {
                    notes |= 1 << line;
                }
            }
            return notes;
        }

        private void deleteLines(int notes) {
            if (!isGlobal) {
                desk.holdLines(first, last);
                desk.dropLines(first, last);
                return;
            }
            int gone = 0;
            for (int line = first; line <= last; line++) {
                if ((notes >> line & 1) != 0) {
                    desk.holdLines(line - gone, line - gone);
                    desk.dropLines(line - gone, line - gone);
                    gone++;
                }
            }
        }

        /** Answers the last line in which something was exchanged, NONE or TOO_LONG. */
        private int exchangeLines(int notes) {
            int changed = NONE;
            for (int line = first; line <= last; line++) {
                boolean isMeant = !isGlobal || (notes >> line & 1) != 0;
                if (isMeant && build(line)) {
                    if (builtSize > MOST_LETTERS) {
                        return TOO_LONG;
                    }
                    text.closeLetters(line, 0, text.sizeOf(line));
                    text.openLetters(line, 0, builtSize);
                    System.arraycopy(built, 0, text.codes, line * MOST_LETTERS, builtSize);
                    changed = line;
                }
            }
            return changed;
        }

        /** Builds a line with its exchanges; false when there is no match in it. */
        private boolean build(int line) {
            int size = text.sizeOf(line);
            int start = line * MOST_LETTERS;
            int done = 0;
            boolean isFound = false;
            builtSize = 0;
            for (int column = 0; column <= size; column++) {
                int matchEnd = sought.endOfMatch(text, line, column);
                boolean isEmptyAtEnd = isFound && matchEnd == done;
                if (matchEnd >= 0 && !isEmptyAtEnd) {
                    append(text.codes, start + done, start + column);
                    appendNew(start + column, start + matchEnd);
                    isFound = true;
                    done = matchEnd;
                    if (!isEverywhere) {
                        break;
                    }
                    column = Math.max(column, matchEnd - 1);
                }
            }
            append(text.codes, start + done, start + size);
            return isFound;
        }

        /** Counts what has no room too, for that tells that the line is too long. */
        private void append(int[] source, int from, int to) {
            for (int i = from; i < to; i++) {
                if (builtSize < MOST_LETTERS) {
                    built[builtSize] = source[i];
                }
                builtSize++;
            }
        }

        /** Appends the replacement for what was matched, which the text has between two indexes. */
        private void appendNew(int matchStart, int matchEnd) {
            for (int i = newStart; i < newEnd; i++) {
                if (codes[i] == '&') {
                    append(text.codes, matchStart, matchEnd);
                } else {
                    if (codes[i] == '\\' && i + 1 < newEnd) {
                        i++;
                    }
                    append(codes, i, i + 1);
                }
            }
        }
    }

    /** The file, the safe text and the jobs that wait to become one of them. */
    private static final class Disk {
        final Text written = new Text();
        private final Text safe = new Text();
        private final Text[] jobs = new Text[MOST_JOBS];
        private final boolean[] isSafety = new boolean[MOST_JOBS];
        private final int[] blocks = new int[MOST_JOBS];
        private int oldest;
        private int waiting;

        Disk() {
            for (int i = 0; i < MOST_JOBS; i++) {
                jobs[i] = new Text();
            }
        }

        boolean addJob(boolean forSafety, Text text, int first, int last) {
            if (waiting >= MOST_JOBS) {
                return false;
            }
            int job = (oldest + waiting) % MOST_JOBS;
            jobs[job].copyLines(text, first, last);
            isSafety[job] = forSafety;
            blocks[job] = last - first + 2;
            waiting++;
            return true;
        }

        /** Answers how many blocks wait then, NONE when none waited. */
        int writeBlock() {
            if (waiting == 0) {
                return NONE;
            }
            blocks[oldest]--;
            if (blocks[oldest] == 0) {
                Text target = isSafety[oldest] ? safe : written;
                target.copy(jobs[oldest]);
                oldest = (oldest + 1) % MOST_JOBS;
                waiting--;
            }
            int left = 0;
            for (int i = 0; i < waiting; i++) {
                left += blocks[(oldest + i) % MOST_JOBS];
            }
            return left;
        }

        /** After a crash no job waits, and the text is the safe one, if there is one. */
        void recover(Text text) {
            waiting = 0;
            if (safe.count > 0) {
                text.copyLines(safe, 0, safe.count - 1);
            }
        }
    }

    /** What the terminal shows of the text. */
    private static final class Window {
        private final int[] shown = new int[ROWS * MOST_WIDTH];
        private final int[] wanted = new int[ROWS * MOST_WIDTH];
        private int width;
        int topLine;
        int sentCodes;

        Window(int width) {
            this.width = width;
            Arrays.fill(shown, BLANK);
        }

        void wipe(int newWidth) {
            width = newWidth;
            Arrays.fill(shown, BLANK);
        }

        int codeAt(int row, int column) {
            return row < 0 || row >= ROWS || column < 0 || column >= width ? 0 : shown[row * width + column];
        }

        void show(Text text) {
            follow(text);
            paint(text);
            send();
        }

        /** Moves TOP so that the cursor's line can be seen. */
        private void follow(Text text) {
            topLine = Math.min(topLine, text.cursorLine);
            int rows = 0;
            for (int line = topLine; line <= text.cursorLine; line++) {
                rows += rowsOf(text, line);
            }
            for (; topLine < text.cursorLine && rows > ROWS; topLine++) {
                rows -= rowsOf(text, topLine);
            }
        }

        private int rowsOf(Text text, int line) {
            return Math.max(1, (text.sizeOf(line) + width - 1) / width);
        }

        private void paint(Text text) {
            Arrays.fill(wanted, BLANK);
            int row = 0;
            int line = topLine;
            for (; line < text.count && row + rowsOf(text, line) <= ROWS; line++) {
                int size = text.sizeOf(line);
                System.arraycopy(text.codes, line * MOST_LETTERS, wanted, row * width, size);
                row += rowsOf(text, line);
            }
            int sign = line < text.count ? '@' : '~';
            for (; row < ROWS; row++) {
                wanted[row * width] = sign;
            }
        }

        private void send() {
            for (int row = 0; row < ROWS; row++) {
                int from = NONE;
                int to = NONE;
                for (int i = row * width; i < (row + 1) * width; i++) {
                    if (shown[i] != wanted[i]) {
                        from = from < 0 ? i : from;
                        to = i;
                        shown[i] = wanted[i];
                    }
                }
                if (from >= 0) {
                    sentCodes += CODES_TO_MOVE + to - from + 1;
                }
            }
        }
    }
}
