import java.lang.annotation.Retention;
import java.lang.annotation.RetentionPolicy;
import java.lang.reflect.Constructor;
import java.lang.reflect.Method;
import java.lang.reflect.Modifier;
import java.nio.file.Files;
import java.nio.file.Path;
import java.util.Arrays;
import java.util.BitSet;
import java.util.Comparator;
import java.util.TreeSet;

/**
 * Each sentence of the document with a test of its own, on objects of its own, none of which is used for more than
 * 512 calls but for the one that shows that later calls end. With the path of the document as argument, it also looks
 * whether each sentence stands there, and whether there is a word of the promises that no test bears.
 */
public final class SentenceTests {
    /** The words of the document that a test holds the program to. */
    @Retention(RetentionPolicy.RUNTIME)
    private @interface Says {
        String value();
    }

    private static final String ESC = "\33";
    private static final String ENTER = "\n";
    private static final String BACK = "\b";
    private static final String TEN_LINES = "1|2|3|4|5|6|7|8|9|0";
    private static final String NINE_LINES = "1|2|3|4|5|6|7|8|9";
    private static final String TWENTY = "abcdefghijklmnopqrst";
    private static final String NINETEEN = "abcdefghijklmnopqrs";
    private static final int[] FAR_OFF = {Integer.MIN_VALUE, -1, 32, 1000, Integer.MAX_VALUE};

    private static String sentence = "";
    private static int checks = 0;
    private static int wrong = 0;

    private static void due(String what, Object got, Object want) {
        checks++;
        if (!want.equals(got)) {
            wrong++;
            System.out.println("\"" + sentence + "\": " + plain(what) + " answered <" + plain("" + got)
                    + ">, due is <" + plain("" + want) + ">");
        }
    }

    private static String plain(String keys) {
        return keys.replace(ESC, "{ESC}").replace(ENTER, "{ENTER}").replace(BACK, "{BACK}");
    }

    private static int at(int line, int column) {
        return line * 32 + column;
    }

    private static String type(KeyScreen x, String keys) {
        StringBuilder answers = new StringBuilder();
        for (char c : keys.toCharArray()) {
            answers.append(x.key(c));
        }
        return answers.toString();
    }

    /** An object with a text (lines parted by |), the cursor at 0, 0, the window wide enough for each line. */
    private static KeyScreen with(String lines) {
        KeyScreen x = new KeyScreen(20);
        // ENTER gives the blanks that a line begins with to the next one, too, so they are typed behind a mark.
        String marked = ("|" + lines).replaceAll("\\|(?= [^|]*\\|)", "|~").substring(1);
        String unmark = marked.equals(lines) ? "" : ":%s/^~//" + ENTER;
        type(x, "i" + marked.replace("|", ENTER) + ESC + unmark + "1G");
        return x;
    }

    private static String text(KeyScreen x) {
        StringBuilder all = new StringBuilder();
        int lines = x.lines();
        for (int i = 0; i < lines; i++) {
            all.append(i == 0 ? "" : "|");
            int length = x.length(i);
            for (int j = 0; j < length; j++) {
                all.append((char) x.letter(i, j));
            }
        }
        return all.toString();
    }

    private static String held(KeyScreen x) {
        StringBuilder all = new StringBuilder();
        int lines = Math.max(1, x.buffer());
        for (int i = 0; i < lines; i++) {
            all.append(i == 0 ? "" : "|");
            for (int j = 0, c = x.held(i, 0); c != 0; j++, c = x.held(i, j)) {
                all.append((char) c);
            }
        }
        return all.toString();
    }

    private static String stored(KeyScreen x) {
        StringBuilder all = new StringBuilder();
        int lines = x.file();
        for (int i = 0; i < lines; i++) {
            all.append(i == 0 ? "" : "|");
            for (int j = 0, c = x.stored(i, 0); c != 0; j++, c = x.stored(i, j)) {
                all.append((char) c);
            }
        }
        return all.toString();
    }

    /** What the terminal shows, without the blanks at the end of each row. */
    private static String screen(KeyScreen x, int width) {
        StringBuilder all = new StringBuilder();
        for (int row = 0; row < 5; row++) {
            StringBuilder cells = new StringBuilder();
            for (int column = 0; column < width; column++) {
                cells.append((char) x.cell(row, column));
            }
            all.append(row == 0 ? "" : "|").append(cells.toString().stripTrailing());
        }
        return all.toString();
    }

    private static String state(KeyScreen x) {
        return "mode " + x.mode() + " cursor " + x.cursor() + " text <" + text(x) + "> buffer " + x.buffer() + " <"
                + held(x) + "> file " + x.file() + " top " + x.top() + " sent " + x.sent();
    }

    /** Keys none of which rings, from the beginning of a text; what comes of it. */
    private static KeyScreen does(String lines, String keys, String text, int cursor) {
        KeyScreen x = with(lines);
        due(lines + " " + keys, type(x, keys), "0".repeat(keys.length()));
        due(lines + " " + keys + " text", text(x), text);
        due(lines + " " + keys + " cursor", x.cursor(), cursor);
        return x;
    }

    /** Keys of which the last one alone rings, behind some that don't; nothing has changed then. */
    private static KeyScreen rings(String lines, String before, String keys) {
        KeyScreen x = with(lines);
        due(lines + " " + before, type(x, before), "0".repeat(before.length()));
        String was = state(x);
        due(lines + " " + before + keys, type(x, keys), "0".repeat(keys.length() - 1) + "1");
        due(lines + " " + before + keys + " state", state(x), was);
        return x;
    }

    private static void syncs(KeyScreen x, int times) {
        for (int i = 0; i < times; i++) {
            x.sync();
        }
    }

    // THE TEXT, the CURSOR and the KEYS

    @Says("THE TEXT has 1 to 10 LINES (0, 1, ..)")
    private static void tenLinesAtMost() {
        KeyScreen x = with(NINE_LINES);
        due("the tenth line", type(x, "i" + ENTER) + x.lines() + x.length(9), "00" + 10 + 1);
        due("the eleventh line", type(x, ENTER) + x.lines() + x.length(10), "1" + 10 + -1);
        for (String key : new String[] {"o", "O", "p", "P"}) {
            KeyScreen y = with(NINE_LINES);
            due(key + " to ten", type(y, "yy" + key) + y.lines(), "000" + 10);
            rings(TEN_LINES, "yy", key);
        }
    }

    @Says("THE TEXT has 1 to 10 LINES (0, 1, ..)")
    private static void oneLineAtLeast() {
        for (String keys : new String[] {"2dd", "dj", "dG", "jdk", ":%d\n", ":1,2d\n", ":g/^/d\n", "dddd"}) {
            KeyScreen x = does("a|b", keys, "", 0);
            due(keys + " lines", x.lines(), 1);
            due(keys + " length", "" + x.length(0) + x.length(1), "0-1");
        }
        due("of an empty text", does("", "dddd", "", 0).lines(), 1);
    }

    @Says("each of at most 20 characters")
    private static void twentyCharactersAtMost() {
        does(NINETEEN, "At" + ESC, TWENTY, 19);
        rings(TWENTY, "A", "u");
        rings(TWENTY, "i", "u");
        does(NINETEEN, "ylP", "a" + NINETEEN, 0);
        rings(TWENTY, "yl", "P");
        does(NINETEEN, ":s/s/st/" + ENTER, TWENTY, 0);
        rings(TWENTY, "", ":s/t/tu/" + ENTER);
    }

    @Says("each of at most 20 characters")
    private static void fullLinesBesideEachOther() {
        does("abcdefghijkl|" + TWENTY, "$iz" + ESC, "abcdefghijkzl|" + TWENTY, 11);
        does(TWENTY + "|" + TWENTY, "j$xiz" + ESC, TWENTY + "|abcdefghijklmnopqrzs", at(1, 18));
        does(TWENTY + "|" + TWENTY, "A" + ENTER + "z" + ESC, TWENTY + "|z|" + TWENTY, at(1, 0));
        KeyScreen x = does("1|2|3|4|5|6|7|8|9|" + NINETEEN, "G$4yh", "1|2|3|4|5|6|7|8|9|" + NINETEEN, at(9, 18));
        due("the buffer", held(x), "opqr");
    }

    @Says("characters with the codes 32 .. 126")
    private static void theFirstAndTheLastCode() {
        KeyScreen x = new KeyScreen(20);
        due("both are taken", type(x, "i ~") + x.letter(0, 0) + " " + x.letter(0, 1), "000" + 32 + " " + 126);
        due("the code below and the one above", "" + x.key(31) + x.key(127) + x.length(0), "-1-12");
        due("in a prompt, too", type(x, ESC + ":s/ ~/~ /" + ENTER) + text(x), "0".repeat(11) + "~ ");
    }

    @Says("At first there is one empty line.")
    private static void oneEmptyLineAtFirst() {
        KeyScreen x = new KeyScreen(20);
        due("lines", x.lines(), 1);
        due("lengths", "" + x.length(0) + x.length(1), "0-1");
        due("letter", x.letter(0, 0), 0);
    }

    @Says("In COMMAND the column is a place of a character (0 in an empty line)")
    private static void columnsInCommand() {
        does("", "i" + ESC, "", 0);
        does("", "A" + ESC, "", 0);
        does("a", "A" + ESC, "a", 0);
        does("ab|", "lj", "ab|", at(1, 0));
        does("ab|", "lG", "ab|", at(1, 0));
        does("", "$", "", 0);
    }

    @Says("wherever a command would leave it behind the last one, it is the last one")
    private static void neverBehindTheLastCharacter() {
        does("abc|a", "$j", "abc|a", at(1, 0));
        does("abc|a|abc", "$jj", "abc|a|abc", at(2, 0));
        does("ab|abcd", "j$k", "ab|abcd", 1);
        does("abc", "$x", "ab", 1);
        does("abc", "l2x", "a", 0);
        does("abc", "ld$", "a", 0);
        does("ab cd", "wdw", "ab ", 2);
        does("a", "x", "", 0);
        does("abc", "/$" + ENTER, "abc", 2);
        does("abc|", "/^$" + ENTER, "abc|", at(1, 0));
    }

    @Says("MODES: COMMAND 0, INSERT 1, PROMPT 2")
    private static void modes() {
        KeyScreen x = new KeyScreen(10);
        due("a new object", x.mode(), 0);
        due("INSERT", type(x, "i") + x.mode() + type(x, ENTER) + x.mode() + type(x, ESC) + x.mode(), "01" + "01" + "00");
        due("PROMPT", type(x, ":") + x.mode() + type(x, ESC) + x.mode() + type(x, "/") + x.mode() + type(x, ENTER) + x.mode(),
                "02" + "00" + "02" + "10");
        due("an unfinished command", type(x, "3d") + x.mode(), "00" + 0);
    }

    @Says("KEYS are 32 .. 126, ESC 27, ENTER 10 and BACK 8")
    private static void whichCodesAreKeys() {
        for (int c = -40; c < 300; c++) {
            boolean isKey = c >= 32 && c <= 126 || c == 27 || c == 10 || c == 8;
            due("key(" + c + ") is taken", new KeyScreen(10).key(c) != -1, isKey);
        }
    }

    @Says("A key that can't be taken RINGS: then nothing changes")
    private static void aRingChangesNothing() {
        rings("ab|cd", "l", "q");
        rings("ab|cd", "yl", "k");
        rings(TWENTY, "yla", "x");
        rings(TEN_LINES, "a", ENTER);
        rings("ab", "a", BACK);
        rings("ab", ":" + "1".repeat(30), "1");
    }

    @Says("but in COMMAND the keys of an unfinished command are dropped")
    private static void aRingDropsAnUnfinishedCommand() {
        KeyScreen x = with("abcdef|g");
        due("a count", type(x, "3q") + type(x, "x") + text(x), "010" + "bcdef|g");
        due("an operator", type(x, "dq") + type(x, "l") + x.cursor() + text(x), "010" + 1 + "bcdef|g");
        due("a count and an operator", type(x, "2dq") + type(x, "x") + text(x), "0010" + "bdef|g");
        due("the second of two operators", type(x, "dy") + type(x, "y") + x.buffer() + type(x, "y") + x.buffer(),
                "010" + 0 + "0" + 1);
    }

    // COMMAND: counts

    @Says("COMMAND. A command is a COUNT 1 .. 99 in decimal without leading zeros")
    private static void countsFromOneTo99() {
        does(TWENTY, "1l", TWENTY, 1);
        does(TWENTY, "9l", TWENTY, 9);
        does(TWENTY, "10l", TWENTY, 10);
        does(TWENTY, "19l", TWENTY, 19);
        does(TWENTY, "99l", TWENTY, 19);
        does(TWENTY, "l", TWENTY, 1);
        does("abcdef", "l03x", "def", 0);
        rings("ab|cd", "", "99j");
    }

    @Says("A key with which no command can go on rings as soon as it comes (a third digit;")
    private static void aThirdDigit() {
        for (char c = '0'; c <= '9'; c++) {
            rings("ab|cd", "", "10" + c);
            rings("ab|cd", "", "99" + c);
        }
        KeyScreen x = with("abcdef");
        due("all of it is dropped", type(x, "112x") + text(x), "0010" + "bcdef");
    }

    @Says("behind an operator a digit but 0)")
    private static void aDigitBehindAnOperator() {
        for (char c = '1'; c <= '9'; c++) {
            rings("abc def", "$", "d" + c);
            rings("abc def", "$", "2y" + c);
        }
        does("abc def", "$d0", "f", 0);
    }

    @Says("A key with which no command can go on rings as soon as it comes")
    private static void aKeyThatBeginsNoCommand() {
        for (char c = ' '; c <= '~'; c++) {
            if ("hljk0$Gwbdcyx123456789pPiaIAoOu.:/".indexOf(c) < 0) {
                rings("ab|cd", "", "" + c);
            }
            if ("hljk0$Gwbd".indexOf(c) < 0) {
                rings("ab cd|ab cd|ab cd", "jw", "d" + c);
            }
        }
    }

    @Says("a count rings at the key behind it if that command has none")
    private static void countsOfCommandsThatHaveNone() {
        for (char c : "pPiaIAoOu.:/$".toCharArray()) {
            rings("abc", "xyl", "1" + c);
            rings("abc", "xyl", "2" + c);
            rings("abc", "xyl", "99" + c);
        }
    }

    @Says("A count before an operator rings at 0 or $ behind that (at 0 in 3d0)")
    private static void aCountBeforeAnOperatorWithoutOne() {
        for (String operator : new String[] {"d", "c", "y"}) {
            for (String count : new String[] {"1", "3", "99"}) {
                rings("abc", "l", count + operator + "0");
                rings("abc", "l", count + operator + "$");
            }
        }
        does("abc", "ld0", "bc", 0);
        does("abc", "ld$", "a", 0);
    }

    @Says("ESC drops an unfinished command (if there is one) and never rings")
    private static void escInCommand() {
        KeyScreen fresh = new KeyScreen(5);
        due("without a command", type(fresh, ESC + ESC) + fresh.mode(), "000");
        does("abc", "2" + ESC + "x", "bc", 0);
        does("abc|d", "d" + ESC + "l", "abc|d", 1);
        does("abc|d", "2d" + ESC + "x", "bc|d", 0);
        does("abc|d", "d" + ESC + "d" + ESC + "x", "bc|d", 0);
    }

    @Says("ENTER and BACK ring")
    private static void enterAndBackInCommand() {
        for (String key : new String[] {ENTER, BACK}) {
            for (String before : new String[] {"", "3", "12", "d", "3y"}) {
                KeyScreen x = rings("ab cd|e", "l", before + key);
                due("dropped behind " + before, type(x, "x") + text(x), "0" + "a cd|e");
            }
        }
    }

    @Says("N is the count, 1 where none is given")
    private static void oneWithoutCount() {
        does("abc", "$h", "abc", 1);
        does("abc", "l", "abc", 1);
        does("a|b|c", "j", "a|b|c", at(1, 0));
        does("a|b|c", "Gk", "a|b|c", at(1, 0));
        does("a b c", "w", "a b c", 2);
        does("a b c", "$b", "a b c", 2);
        does("abc", "x", "bc", 0);
        does("a|b|c", "dd", "b|c", 0);
    }

    // COMMAND: motions

    @Says("h: column C - N, at least 0")
    private static void hToTheBeginning() {
        does("abcd", "$3h", "abcd", 0);
        does("abcd", "$4h", "abcd", 0);
        does("abcd", "$99h", "abcd", 0);
        does("abcd", "$2h", "abcd", 1);
    }

    @Says("rings if C is 0")
    private static void hAtTheBeginning() {
        rings("abc", "", "h");
        rings("abc|d", "j", "h");
        rings("", "", "h");
        rings("abc", "", "9h");
    }

    @Says("l: C + N, at most the last place")
    private static void lToTheLastPlace() {
        does("abcd", "3l", "abcd", 3);
        does("abcd", "4l", "abcd", 3);
        does("abcd", "l99l", "abcd", 3);
        does("abcd", "2l", "abcd", 2);
    }

    @Says("rings if C is that or the line is empty")
    private static void lAtTheLastPlace() {
        rings("abc", "$", "l");
        rings("a", "", "l");
        rings("", "", "l");
        rings("abc|", "j", "9l");
    }

    @Says("j, k: line L + N, L - N, the same column; rings if there is no such line")
    private static void noLineThere() {
        rings("a|b|c", "", "k");
        rings("a|b|c", "", "3j");
        rings("a|b|c", "j", "2j");
        rings("a|b|c", "j", "2k");
        rings("a|b|c", "G", "j");
        rings("a|b|c", "G", "3k");
        rings("", "", "j");
        rings("", "", "k");
        does("a|b|c", "2j", "a|b|c", at(2, 0));
        does("a|b|c", "G2k", "a|b|c", 0);
        does(TEN_LINES, "9j", TEN_LINES, at(9, 0));
        rings(TEN_LINES, "", "10j");
        does("abc|def", "lj", "abc|def", at(1, 1));
        does("abc|def", "j$k", "abc|def", 2);
    }

    @Says("0: column 0")
    private static void columnNoughtNeverRings() {
        does("abc", "0", "abc", 0);
        does("abc", "$0", "abc", 0);
        does("", "0", "", 0);
    }

    @Says("$: the last place")
    private static void lastPlaceNeverRings() {
        does("abc", "$$", "abc", 2);
        does("a", "$", "a", 0);
        does("", "$", "", 0);
    }

    @Says("G: the line with the number N counted from 1, without count the last one, column 0; rings if there is none")
    private static void lineNumbers() {
        does("abc|def|ghi", "jl1G", "abc|def|ghi", 0);
        does("abc|def|ghi", "l3G", "abc|def|ghi", at(2, 0));
        does("abc|def|ghi", "lG", "abc|def|ghi", at(2, 0));
        does("abc", "lG", "abc", 0);
        does(TEN_LINES, "10G", TEN_LINES, at(9, 0));
        rings("abc|def|ghi", "l", "4G");
        rings("abc", "l", "2G");
        rings(TEN_LINES, "", "11G");
        rings("abc", "l", "99G");
    }

    @Says("w: the N-th STOP behind the cursor, b: the N-th before it; these ring if there are not so many")
    private static void notSoManyStops() {
        does("a b|c", "2w", "a b|c", at(1, 0));
        rings("a b|c", "", "3w");
        rings("a b|c", "G", "w");
        does("a b|c", "G2b", "a b|c", 0);
        rings("a b|c", "G", "3b");
        rings("a b|c", "", "b");
        rings("", "", "w");
        rings("", "", "b");
        rings("a  ", "", "w");
        rings("  a", "$", "b");
        does("  a", "w", "  a", 2);
    }

    @Says("The KIND of a character is blank (32), word (letters, digits, _) or other")
    private static void kindsAtTheEdges() {
        for (char c = '!'; c <= '~'; c++) {
            boolean isWord = Character.isLetterOrDigit(c) || c == '_';
            KeyScreen x = new KeyScreen(5);
            due("w from m before " + c, type(x, "im" + c + " ;" + ESC + "0w") + x.cursor(), "00000000" + (isWord ? 3 : 1));
        }
        does("a b", "w", "a b", 2);
        does("! b", "w", "! b", 2);
    }

    @Says("A STOP is a place of a character that is not blank and at column 0 or of another kind than the one before it")
    private static void stopsAreNotBlank() {
        does("a b", "w", "a b", 2);
        does("a|b", "w", "a|b", at(1, 0));
        does("a| b", "w", "a| b", at(1, 1));
        does("a|  |b", "w", "a|  |b", at(2, 0));
        does("ab.c", "w", "ab.c", 2);
        does("ab.c", "2w", "ab.c", 3);
        does("aa  bb", "$b", "aa  bb", 4);
        does("aa  bb", "$2b", "aa  bb", 0);
    }

    @Says("and column 0 of an empty line")
    private static void anEmptyLineIsAStop() {
        does("a||b", "w", "a||b", at(1, 0));
        does("a||b", "ww", "a||b", at(2, 0));
        does("a||b", "Gb", "a||b", at(1, 0));
        does("|b", "Gb", "|b", 0);
        does("a|", "w", "a|", at(1, 0));
        rings("a|", "w", "w");
    }

    @Says("Places are in order by lines, then by columns")
    private static void stopsAreSoughtOverLines() {
        does(TWENTY + "|b|c", "$2w", TWENTY + "|b|c", at(2, 0));
        does("a b|" + TWENTY, "G2b", "a b|" + TWENTY, 0);
        does("a b|c d", "j2b", "a b|c d", 0);
        does("a b|c d", "w2w", "a b|c d", at(1, 2));
    }

    // COMMAND: operators

    @Says("the same key again: N lines from L on (rings if there are not so many)")
    private static void notSoManyLines() {
        does("a|b|c", "j2dd", "a", 0);
        rings("a|b|c", "j", "3dd");
        rings("a|b|c", "G", "2yy");
        rings("a|b|c", "", "4cc");
        rings("", "", "2dd");
        does(TEN_LINES, "10dd", "", 0);
        rings(TEN_LINES, "", "11dd");
    }

    @Says("j, k, G: all lines from L to the one where that motion leads, or from that one to L")
    private static void linesToWhereAMotionLeads() {
        does("a|b|c|d", "jdj", "a|d", at(1, 0));
        does("a|b|c|d", "j2dj", "a", 0);
        does("a|b|c|d", "2jdk", "a|d", at(1, 0));
        does("a|b|c|d", "2j2dk", "d", 0);
        does("a|b|c|d", "jdG", "a", 0);
        does("a|b|c|d", "GdG", "a|b|c", at(2, 0));
        does("a|b|c|d", "2j1dG", "d", 0);
        does("a|b|c|d", "j3dG", "a|d", at(1, 0));
        does("a|b|c|d", "j2dG", "a|c|d", at(1, 0));
    }

    @Says("h: the N before C (or all, if there are fewer)")
    private static void fewerCharactersBefore() {
        does("abcd", "$3dh", "d", 0);
        does("abcd", "$4dh", "d", 0);
        does("abcd", "$99dh", "d", 0);
        does("abcd", "$2dh", "ad", 1);
    }

    @Says("l: N from C on (or all)")
    private static void fewerCharactersFromThere() {
        does("abcd", "l3dl", "a", 0);
        does("abcd", "l4dl", "a", 0);
        does("abcd", "l99dl", "a", 0);
        does("abcd", "$dl", "abc", 2);
        does("abcd", "l2dl", "ad", 1);
    }

    @Says("0: all before C, $: all from C on")
    private static void allBeforeAndAllFromThere() {
        does("abc", "$d0", "c", 0);
        does("abc", "ld0", "bc", 0);
        rings("abc", "", "d0");
        does("abc", "d$", "", 0);
        does("abc", "$d$", "ab", 1);
        does("abc", "$y$P", "abcc", 2);
    }

    @Says("w: from C to before the place where w leads, if it leads to one in L, otherwise (also when w rings) all from C on")
    private static void wordsToTheEndOfTheLine() {
        does("ab cd", "dw", "cd", 0);
        does("ab cd|ef", "wdw", "ab |ef", 2);
        does("ab cd|ef", "2dw", "|ef", 0);
        does("ab cd", "wdw", "ab ", 2);
        does("ab cd", "99dw", "", 0);
        does("ab  |ef", "ldw", "a|ef", 0);
    }

    @Says("b: from where b leads to before C, rings if it does not lead to a place in L")
    private static void wordsBeforeInTheLine() {
        does("ab cd", "$db", "ab d", 3);
        does("ab cd", "w2lb", "ab cd", 3);
        does("ab cd", "$2db", "d", 0);
        rings("ab|cd", "j", "db");
        rings("ab|cd", "jl", "2db");
        rings("ab|cd", "l", "2db");
        rings("ab", "", "db");
        rings("a|  b", "j$", "yb");
    }

    @Says("With lines an operator rings if its motion does")
    private static void motionsThatRingWithLines() {
        for (String operator : new String[] {"d", "c", "y"}) {
            rings("a|b", "j", operator + "j");
            rings("a|b", "", operator + "k");
            rings("a|b", "", "2" + operator + "j");
            rings("a|b", "j", "2" + operator + "k");
            rings("a|b", "", "3" + operator + "G");
        }
    }

    @Says("with characters if there are none")
    private static void operatorsWithoutCharacters() {
        for (String operator : new String[] {"d", "c", "y"}) {
            rings("ab", "", operator + "h");
            rings("ab", "", operator + "0");
            for (String motion : new String[] {"h", "l", "0", "$", "w", "b"}) {
                rings("", "", operator + motion);
                rings("ab||cd", "j", operator + motion);
            }
        }
        does("a", "dl", "", 0);
        does("a", "d$", "", 0);
        does("a", "dw", "", 0);
    }

    @Says("y puts them into the BUFFER and does nothing else (the cursor stays)")
    private static void theCursorStays() {
        due("yh", held(does("abcd", "$2yh", "abcd", 3)), "bc");
        due("y0", held(does("abcd", "$y0", "abcd", 3)), "abc");
        due("yb", held(does("ab cd", "$yb", "ab cd", 4)), "c");
        due("y$", held(does("abcd", "ly$", "abcd", 1)), "bcd");
        due("yk", held(does("ab|cd", "jlyk", "ab|cd", at(1, 1))), "ab|cd");
        due("1yG", held(does("ab|cd|ef", "jl1yG", "ab|cd|ef", at(1, 1))), "ab|cd");
        due("yy of an empty line", does("", "yy", "", 0).buffer(), 1);
    }

    @Says("the cursor is where the first one was")
    private static void theCursorBehindCharacters() {
        does("abcd", "l2dl", "ad", 1);
        does("abcd", "$2dh", "ad", 1);
        does("abcd", "2ld0", "cd", 0);
        does("abcd", "2ld$", "ab", 1);
    }

    @Says("of lines: at the line that is behind them then (the last one if there is none), column 0")
    private static void theCursorBehindLines() {
        does("abc|def|ghi", "ldd", "def|ghi", 0);
        does("abc|def|ghi", "jldd", "abc|ghi", at(1, 0));
        does("abc|def|ghi", "Gldd", "abc|def", at(1, 0));
        does("abc|def|ghi", "Gldk", "abc", 0);
        does("abc|def|ghi", "jl:d" + ENTER, "abc|ghi", at(1, 0));
        does("abc|def|ghi", "l:2,3d" + ENTER, "abc", 0);
    }

    @Says("when no line is left, there is one new empty line")
    private static void noLineLeft() {
        KeyScreen x = does("ab|cd", "l2dd", "", 0);
        due("lines", "" + x.lines() + x.length(0) + x.mode(), "100");
        due("the buffer has both", held(x), "ab|cd");
        due("it can be typed in", type(x, "iz" + ESC) + text(x), "000z");
    }

    @Says("c is as d, but then INSERT begins at that place (it may be behind the last character)")
    private static void cBehindTheLastCharacter() {
        KeyScreen x = does("abc", "lc$", "a", 1);
        due("mode", x.mode(), 1);
        due("nothing to take out", type(x, BACK), "1");
        due("typed behind it", type(x, "z") + text(x), "0az");
        does("abc", "$cl", "ab", 2);
        does("ab cd", "wcw", "ab ", 3);
        does("a", "c$", "", 0);
        does("abc", "lcl", "ac", 1);
    }

    @Says("of lines, the first one stays, but empty, and INSERT begins in it")
    private static void cOfLines() {
        KeyScreen x = does("ab|cd|ef", "jlcj", "ab|", at(1, 0));
        due("mode", x.mode(), 1);
        due("nothing to take out", type(x, BACK), "1");
        due("all lines", does("ab|cd", "l2cc", "", 0).mode(), 1);
        due("an empty line", held(does("", "cc", "", 0)), "");
        does(TEN_LINES, "Gck", "1|2|3|4|5|6|7|8|", at(8, 0));
        does("  ab|c", "cc", "|c", 0);
    }

    @Says("x (with count) is d with l")
    private static void xAtTheEdges() {
        does("abc", "$x", "ab", 1);
        does("abc", "l9x", "a", 0);
        does("abc", "3x", "", 0);
        does("abc", "l2x", "a", 0);
        rings("", "", "x");
        rings("", "", "3x");
        due("the buffer", held(does("abcd", "l2x", "ad", 1)), "bc");
    }

    // COMMAND: the buffer put back

    @Says("(p in an empty line: at column 0)")
    private static void pInAnEmptyLine() {
        does("ab|", "2yljp", "ab|ab", at(1, 1));
        does("ab|", "2yljP", "ab|ab", at(1, 1));
        does("a", "xp", "a", 0);
    }

    @Says("p, P: puts the buffer's characters behind the character at the cursor, or before it")
    private static void putAtTheEnds() {
        does("abc", "2yl$p", "abcab", 4);
        does("abc", "2yl$P", "ababc", 3);
        does("abc", "2ylp", "aabbc", 2);
        does("abcd", "l2ylp", "abbccd", 3);
        does("abcd", "2l2xP", "acdb", 2);
        does("abc", "2ylP", "ababc", 1);
    }

    @Says("the cursor at the last of them")
    private static void theCursorBehindPutCharacters() {
        does("abc", "ylp", "aabc", 1);
        does("abc", "ylP", "aabc", 0);
        does("abcdefghij", "y$P", "abcdefghijabcdefghij", 9);
        does("|abc", "jy$kp", "abc|abc", 2);
    }

    @Says("or its lines, as new ones, below or above L, the cursor at column 0 of the first of them")
    private static void putLinesAtTheEnds() {
        does("abc|de", "2yyj$p", "abc|de|abc|de", at(2, 0));
        does("abc|de", "2yy$P", "abc|de|abc|de", 0);
        does("abc|de", "yy$p", "abc|abc|de", at(1, 0));
        does("", "yyp", "|", at(1, 0));
        does("", "yyP", "|", 0);
    }

    @Says("Rings if nothing was put into the buffer")
    private static void putFromNothing() {
        for (String key : new String[] {"p", "P"}) {
            KeyScreen x = new KeyScreen(10);
            due(key + " of a new object", type(x, key) + x.lines() + x.buffer(), "1" + 1 + -1);
            rings("abc", "", key);
            rings("abc|d", ":w" + ENTER + ":s/b//" + ENTER, key);
            rings("abc", "lia" + BACK + ESC, key);
        }
    }

    @Says("or a limit of the text is passed")
    private static void putBeyondALimit() {
        does("abcdefghij", "y$p", "aabcdefghijbcdefghij", 10);
        does("abcdefghij", "y$P", "abcdefghijabcdefghij", 9);
        does("a|b|c|d|e", "yGp", "a|a|b|c|d|e|b|c|d|e", at(1, 0));
        does("a|b|c|d|e", "yGP", "a|b|c|d|e|a|b|c|d|e", 0);
        for (String key : new String[] {"p", "P"}) {
            rings("abcdefghijk", "y$", key);
            rings(TWENTY, "yl", key);
            rings(TWENTY, "y$", key);
            rings("a|b|c|d|e|f", "yG", key);
            rings(TEN_LINES, "yy", key);
        }
        does("a|" + TWENTY, "yljdd", "a", 0);
        does("|" + TWENTY, "jy$kp", TWENTY + "|" + TWENTY, 19);
    }

    // COMMAND: where INSERT begins

    @Says("i, a: INSERT begins at C, or behind the character at C (at 0 in an empty line)")
    private static void insertInAnEmptyLine() {
        due("mode", does("", "a", "", 0).mode(), 1);
        due("mode", does("", "i", "", 0).mode(), 1);
        does("", "az" + ESC, "z", 0);
        does("ab", "$a", "ab", 2);
        does("ab", "$i", "ab", 1);
        does("ab", "a", "ab", 1);
    }

    @Says("I: at the first character that is not blank (at the end if there is none), A: at the end")
    private static void insertBehindBlanks() {
        does("  ab", "$I", "  ab", 2);
        does("ab", "$I", "ab", 0);
        does("   ", "I", "   ", 3);
        does("", "I", "", 0);
        does("ab", "A", "ab", 2);
        does("", "A", "", 0);
        does("ab  ", "A", "ab  ", 4);
        does(TWENTY, "A", TWENTY, 20);
    }

    @Says("o, O: a new line below, or above, with the blanks that L begins with; INSERT begins behind them; rings if there are 10")
    private static void newLines() {
        due("mode", does("  ab", "o", "  ab|  ", at(1, 2)).mode(), 1);
        due("mode", does("  ab", "O", "  |  ab", 2).mode(), 1);
        does("   ", "o", "   |   ", at(1, 3));
        does("", "i   " + BACK + ESC + "o", "  |  ", at(1, 2));
        does("", "o", "|", at(1, 0));
        does("a|b", "jo", "a|b|", at(2, 0));
        does("a|b", "O", "|a|b", 0);
        for (String key : new String[] {"o", "O"}) {
            KeyScreen x = with(NINE_LINES);
            due(key + " of nine", type(x, key) + x.lines() + x.mode(), "0" + 10 + 1);
            rings(TEN_LINES, "", key);
            rings("  a", key, BACK);
        }
    }

    // COMMAND: changes, the OTHER and the period

    @Says("CHANGES are d, c, x, p, P, i, a, I, A, o, O (done, not ringing)")
    private static void whatRingsIsNoChange() {
        for (String keys : new String[] {"0dh", "yh", "3dj", "kdk", "2cc", "q", "2p", "c0"}) {
            KeyScreen x = with("abc");
            type(x, "lx" + "0" + keys);
            due("u behind " + keys, type(x, "u") + text(x) + x.cursor(), "0" + "abc" + 1);
            KeyScreen y = with("abcd");
            type(y, "lx" + "0" + keys);
            due("a period behind " + keys, type(y, ".") + text(y), "0" + "cd");
        }
        KeyScreen x = with(TEN_LINES);
        due("o and p that ring", type(x, "xyyopOP") + type(x, "u") + text(x), "000" + "1111" + "0" + TEN_LINES);
    }

    @Says("with all that is typed until INSERT ends (nothing, too)")
    private static void nothingTypedIsAChange() {
        does("abc", "x$i" + ESC + "u", "bc", 1);
        does("abc", "x$i" + ESC + ".", "bc", 0);
        does("abc", "$iz" + BACK + ESC + "u", "abc", 2);
        does("abc", "lixy" + ENTER + "z" + ESC + "u", "abc", 1);
        does("abc", "ixy" + ESC + "uu", "xyabc", 1);
    }

    @Says("Before a change, at its first key, the text and the cursor are kept as the OTHER")
    private static void theOtherIsOneChangeAgo() {
        does("abc", "xxu", "bc", 0);
        does("abc|d", "l2ddu", "abc|d", 1);
        does("abc", "lylpu", "abc", 1);
        for (String keys : new String[] {"x", "dd", "dw", "cwz" + ESC, "ccz" + ESC, "p", "P", "iz" + ESC, "az" + ESC, "Iz" + ESC,
            "Az" + ESC, "oz" + ESC, "Oz" + ESC}) {
            does("abc|d", "ylx$" + keys + "u", "bc|d", 1);
        }
        does("a b", "wcwxyz" + ESC + "u", "a b", 2);
        does(TEN_LINES, "Gccz" + ESC + "u", TEN_LINES, at(9, 0));
    }

    @Says("u exchanges text and cursor with the OTHER (so a second u goes back; rings if there is none, as behind a crash)")
    private static void undoTwice() {
        KeyScreen fresh = new KeyScreen(10);
        due("u of a new object", type(fresh, "u") + type(fresh, "yyu"), "1" + "001");
        does("abc", "lx0u", "abc", 1);
        does("abc", "lx0uu", "ac", 0);
        does("abc", "lx0u$uu", "abc", 2);
        does("abc", "xup", "aabc", 1);
        does("abc|d", "xddu", "bc|d", 0);
        rings("abc", "x", "2u");
        KeyScreen x = with("abc");
        type(x, "x");
        x.crash();
        due("u behind a crash", type(x, "u") + x.lines() + x.length(0), "1" + 1 + 0);
    }

    @Says("but those by lines are worked again as if typed")
    private static void thePeriodKnowsNoLines() {
        does("abcd", "x:s/b/z/" + ENTER + ".", "cd", 0);
        does("a|b|c|d", "dd:d" + ENTER + ".", "d", 0);
        KeyScreen x = new KeyScreen(10);
        due("a line alone", type(x, ":s/^/ab/" + ENTER) + type(x, "."), "0".repeat(9) + "1");
    }

    @Says("A period (.): the keys of the latest change (its count, all taken in INSERT, the ESC)")
    private static void allKeysOfAChange() {
        does("abcdefgh", "2x.", "efgh", 0);
        does("abcdefghijklmnopqrst", "10x.", "", 0);
        does("a|b|c|d|e", "2dd.", "e", 0);
        does("a b c d", "2cwz" + ESC + "w.", "zc z", 3);
        does("ab", "ixy" + BACK + "z" + ESC + "0.", "xzxzab", 1);
        does("ab", "A" + ENTER + "c" + ESC + ".", "ab|c|c", at(2, 0));
        due("ESC is worked, too", does("ab", "ix" + ESC + ".", "xxab", 0).mode(), 0);
    }

    @Says("(without those that rang")
    private static void thePeriodWithoutKeysThatRang() {
        KeyScreen x = with("bcdefghijklmnopqrst");
        due("three of four ring", type(x, "iabcd" + ESC) + text(x), "001110" + "a" + "bcdefghijklmnopqrst");
        due("in another line", type(x, ":s/.*//" + ENTER + ".") + text(x), "0".repeat(9) + "a");
        KeyScreen y = with("ab");
        due("BACK rings", type(y, "a" + BACK + "x" + BACK + BACK + ESC) + type(y, ".") + text(y), "010010" + "0" + "ab");
    }

    @Says("the first one that rings in COMMAND ends it, and what was done by then stays)")
    private static void aPeriodThatEndsEarly() {
        KeyScreen x = with(NINE_LINES);
        due("o with x and dd typed", type(x, "oxdd" + ESC) + x.lines(), "00000" + 10);
        String was = state(x);
        due("no x, no dd", type(x, "."), "1");
        due("no x, no dd", state(x), was);
        KeyScreen y = with("ab|");
        due("cw with x typed", type(y, "cwx" + ESC) + type(y, "j.") + text(y) + y.mode(), "0000" + "01" + "x|" + 0);
    }

    @Says("rings if there was none")
    private static void aPeriodWithoutChange() {
        KeyScreen x = new KeyScreen(10);
        due("a new object", type(x, "."), "1");
        due("behind what is no change", type(x, "yy.") + type(x, ":w" + ENTER + ".") + type(x, "x."),
                "001" + "0001" + "11");
        due("behind one", type(x, "p.") + x.lines(), "00" + 3);
        KeyScreen y = with("ab");
        y.crash();
        due("behind a crash", type(y, ".") + text(y), "1");
        type(y, "ia" + ESC);
        y.crash();
        due("behind a crash", type(y, ".") + text(y), "1");
    }

    @Says("or it had more than 8 keys (that did not ring; ESC counts)")
    private static void aChangeOfNineKeys() {
        does("", "iabcdef" + ESC + ".", "abcdeabcdeff", 10);
        rings("", "iabcdefg" + ESC, ".");
        does("ab cd", "12cwxyz" + ESC + ":s/$/ab/" + ENTER + ".", "xyz", 2);
        rings("ab cd", "12cwvxyz" + ESC, ".");
        does("", "iab" + BACK + "cde" + ESC + "0.", "acdeacde", 3);
        rings("", "iab" + BACK + "cdef" + ESC, ".");
        rings("", "iabcdefghijklmnopq" + ESC, ".");
        does("abc", "iabcdefg" + ESC + "x.", "abcdefbc", 6);
        KeyScreen x = with(NINETEEN);
        due("rings are not counted", type(x, "At123456789" + ESC), "00" + "1".repeat(9) + "0");
        due("rings are not counted", type(x, ":s/t//" + ENTER + ".") + text(x), "0".repeat(8) + TWENTY);
    }

    @Says("or behind a count")
    private static void aPeriodBehindACount() {
        rings("abc", "x", "1.");
        rings("abc", "x", "2.");
        rings("abc", "x", "99.");
        rings("abc", "x", "d.");
        KeyScreen x = rings("abcd", "x", "2.");
        due("the count is dropped", type(x, ".") + text(x), "0cd");
    }

    @Says("That change stays the latest")
    private static void thePeriodKeepsTheChange() {
        does("abcdefgh", "2x..", "gh", 0);
        does("a|b|c|d", "ddu.u.", "b|c|d", 0);
        does("abcdef", "x.2x.", "", 0);
        does("abc", "x.iz" + ESC + ".", "zzc", 0);
        KeyScreen x = with("abcdefghijklmnopq");
        due("a period cut short", type(x, "Ars" + ESC) + type(x, "."), "0000" + "1");
        due("has the whole change", type(x, ":s/.*//" + ENTER + ".") + text(x), "0".repeat(9) + "rs");
    }

    @Says("The period rings, too, if one of its keys does, in INSERT also")
    private static void aPeriodThatRingsInInsert() {
        KeyScreen x = with("abcdefghijklmnopq");
        due("a change", type(x, "Axy" + ESC), "0000");
        due("the second character rings", type(x, ".") + text(x) + x.cursor() + x.mode(),
                "1" + "abcdefghijklmnopqxyx" + 19 + 0);
        KeyScreen y = with("1|2|3|4|5|6|7|8|9");
        due("a change", type(y, "A" + ENTER + "z" + ESC), "0000");
        due("ENTER rings, what is behind it is worked", type(y, ".") + y.lines() + y.length(1) + y.mode(),
                "1" + 10 + 2 + 0);
        due("u goes back behind the change", type(y, "u") + y.length(1), "0" + 1);
    }

    // INSERT

    @Says("INSERT. A character is put in at the cursor, which moves on; rings if the line has 20")
    private static void theTwentyFirstCharacter() {
        KeyScreen x = new KeyScreen(20);
        due("twenty", type(x, "i" + TWENTY), "0".repeat(21));
        due("cursor", x.cursor(), 20);
        due("one more", type(x, "u") + x.length(0) + x.cursor() + x.mode(), "1" + 20 + 20 + 1);
        rings(TWENTY, "5li", "z");
        does(NINETEEN, "iz", "z" + NINETEEN, 1);
    }

    @Says("ENTER: what is from the cursor on comes, with its own blanks, into a new line below")
    private static void enterAtTheEnds() {
        does("abc", "i" + ENTER, "|abc", at(1, 0));
        does("abc", "A" + ENTER, "abc|", at(1, 0));
        does("ab  cd", "2li" + ENTER, "ab|  cd", at(1, 0));
        does("", "i" + ENTER, "|", at(1, 0));
        does(TWENTY, "i" + ENTER, "|" + TWENTY, at(1, 0));
        does("a|b", "A" + ENTER, "a||b", at(1, 0));
    }

    @Says("behind as many blanks as L (before it is parted) begins with, but not more than C")
    private static void enterWithinTheBlanks() {
        does("   ab", "i" + ENTER, "|   ab", at(1, 0));
        does("   ab", "li" + ENTER, " |   ab", at(1, 1));
        does("   ab", "3li" + ENTER, "   |   ab", at(1, 3));
        does("   ab", "A" + ENTER, "   ab|   ", at(1, 3));
        does("   ", "A" + ENTER, "   |   ", at(1, 3));
        does("   " + "abcdefghijklmnopq", "3li" + ENTER, "   |   " + "abcdefghijklmnopq", at(1, 3));
    }

    @Says("the cursor is behind these blanks; rings if there are 10 lines")
    private static void enterInTheTenthLine() {
        KeyScreen x = with("1|2|3|4|5|6|7|8| 9");
        due("the tenth line", type(x, "GA" + ENTER) + x.lines() + x.cursor(), "000" + 10 + at(9, 1));
        due("no more", type(x, ENTER) + x.lines() + x.cursor() + x.mode(), "1" + 10 + at(9, 1) + 1);
        rings(TEN_LINES, "A", ENTER);
        rings(TEN_LINES, "i", ENTER);
    }

    @Says("BACK: takes the character before the cursor out; rings if the cursor is at the column where INSERT began")
    private static void backWhereInsertBegan() {
        rings("", "i", BACK);
        rings("abc", "$i", BACK);
        rings("abc", "A", BACK);
        rings("abc", "$cl", BACK);
        rings("  abc", "I", BACK);
        KeyScreen x = with("abc");
        due("what was typed can go", type(x, "lixy" + BACK + BACK + BACK) + text(x) + x.cursor(), "0000001" + "abc" + 1);
        KeyScreen y = with("abc");
        due("a new INSERT", type(y, "aXY" + ESC + "a" + BACK) + text(y), "000001" + "aXYbc");
    }

    @Says("or, since the latest ENTER, behind its blanks")
    private static void backBehindEnter() {
        rings("abc", "a" + ENTER, BACK);
        rings("  abc", "A" + ENTER, BACK);
        rings("   abc", "li" + ENTER, BACK);
        KeyScreen x = with("  ab");
        due("to the blanks and no more", type(x, "A" + ENTER + "x" + BACK + BACK) + text(x) + x.cursor(),
                "00001" + "  ab|  " + at(1, 2));
        KeyScreen y = with("abcdef");
        due("below the column where INSERT began", type(y, "3li" + ENTER + "uvwxy" + BACK.repeat(5)) + type(y, BACK)
                + text(y), "0".repeat(14) + "1" + "abc|def");
        KeyScreen z = with("ab");
        due("the latest of two", type(z, "A" + ENTER + " " + ENTER + BACK) + text(z), "00001" + "ab| | ");
    }

    @Says("ESC: COMMAND, the column is one less, at least 0")
    private static void escInInsert() {
        due("mode", does("", "i" + ESC, "", 0).mode(), 0);
        does("abc", "i" + ESC, "abc", 0);
        does("abc", "a" + ESC, "abc", 0);
        does("abc", "A" + ESC, "abc", 2);
        does(TWENTY, "A" + ESC, TWENTY, 19);
        does("abc", "A" + ENTER + ESC, "abc|", at(1, 0));
    }

    // PROMPT

    @Says("PROMPT. Characters come behind those typed, at most 30 (rings)")
    private static void thirtyCharacters() {
        for (String begin : new String[] {":", "/"}) {
            KeyScreen x = with("ab|b");
            due("thirty", type(x, begin + "b".repeat(30)), "0".repeat(31));
            due("one more", type(x, "b") + x.mode(), "1" + 2);
            due("still thirty", type(x, BACK.repeat(30)) + x.mode() + type(x, BACK) + x.mode(), "0".repeat(30) + 2 + "00");
        }
        does("a|xz", "/[" + "z".repeat(28) + "]" + ENTER, "a|xz", at(1, 1));
        KeyScreen y = with("ab|b");
        String line = ":1,1s/[aaaaaaaaaaaaaa]b/cdefg/g";
        due("a line of thirty", type(y, line + "g" + ENTER) + text(y), "0".repeat(31) + "1" + "0" + "cdefg|b");
    }

    @Says("PROMPT. Characters come behind those typed, at most 30 (rings)")
    private static void fullPromptsThatBreakOff() {
        String set = "[" + "z".repeat(25) + "]";
        for (String line : new String[] {"/" + set + "zz\\", "/" + set + "zz[", "/" + set + "z[z", "/" + set + "z[^", "/" + set + "^*" + "*",
            ":/" + "z".repeat(29), ":/z/s/" + "z".repeat(25), ":s/z/" + "z".repeat(26), ":s/z/" + "z".repeat(25) + "\\",
            ":g/z/" + "s".repeat(26), ":g/z/s/z/" + "z".repeat(22), ":" + "p".repeat(30)}) {
            due("length of " + line, line.length(), 31);
            rings("z|z", "", line + ENTER);
        }
    }

    @Says("BACK takes the last one out")
    private static void backInAPrompt() {
        does("a|b", ":22" + BACK + ENTER, "a|b", at(1, 0));
        does("a|b", ":12" + BACK + BACK + "2" + ENTER, "a|b", at(1, 0));
        does("a|b", "/" + "b".repeat(30) + BACK.repeat(29) + ENTER, "a|b", at(1, 0));
    }

    @Says(": and / begin a PROMPT")
    private static void beginningsOfAPrompt() {
        due("mode", does("a|b", "jx:", "a|", at(1, 0)).mode(), 2);
        due("mode", does("a|b", "jx/", "a|", at(1, 0)).mode(), 2);
        does("a/:b", "//" + ENTER, "a/:b", 1);
        does("a/:b", "/:" + ENTER, "a/:b", 2);
        rings("a/:b", "", "::" + ENTER);
        does("a|a/b", ":/b/" + ENTER + "/b" + ENTER, "a|a/b", at(1, 2));
    }

    @Says("ESC, and BACK when there is none, end it without more")
    private static void promptsThatEnd() {
        does("abc|d", "l:2" + ESC, "abc|d", 1);
        does("abc|d", "l:" + ESC, "abc|d", 1);
        does("abc|d", "l:" + BACK, "abc|d", 1);
        does("abc|d", "l/d" + BACK + BACK, "abc|d", 1);
        due("mode", does("abc|d", "l:d" + BACK, "abc|d", 1).mode(), 2);
        due("mode", does("abc|d", "l:d" + BACK + BACK, "abc|d", 1).mode(), 0);
        does("abc|d", "l:2" + ESC + ":" + ENTER, "abc|d", 1);
        does("abc|d", ":2d" + BACK + ENTER, "abc|d", at(1, 0));
    }

    @Says("ENTER ends it and carries the LINE out; rings if that can't be done, and then only the PROMPT has ended")
    private static void aLineThatCannotBeDone() {
        due("mode", rings("abc|d", "lyl", ":9" + ENTER).mode(), 0);
        due("mode", rings("abc|d", "lyl", "/q" + ENTER).mode(), 0);
        rings("abc|d", "lyl", ":%s/q/r/" + ENTER);
        does("abc|d", "l:" + ENTER, "abc|d", 1);
        KeyScreen x = rings("abc|d", "", ":dq" + ENTER);
        due("what was typed is gone", type(x, ":d" + ENTER) + text(x), "000d");
    }

    // PATTERNS

    /** Where a search from the beginning of a text leads. */
    private static void finds(String lines, String pattern, int cursor) {
        does(lines, "/" + pattern + ENTER, lines, cursor);
    }

    private static void findsNothing(String lines, String pattern) {
        rings(lines, "", "/" + pattern + ENTER);
    }

    @Says("PATTERNS: perhaps ^, then ATOMS, at most 8, perhaps $ as the last character; one of these at least")
    private static void eightAtoms() {
        finds("xabcdefgh", "abcdefgh", 1);
        finds("xabcdefgh", "abcdefgh$", 1);
        finds("x|abcdefgh", "^abcdefgh$", at(1, 0));
        findsNothing("xabcdefghi", "abcdefghi");
        findsNothing("xabcdefghi", "a*b*c*d*e*f*g*h*i*");
        findsNothing("xabcdefghi", "[a][b][c][d].....");
        finds("xabcdefgh", "[a][b][c][d]....", 1);
        finds("abc|d", "^", at(1, 0));
        finds("abc|d", "$", 2);
        finds("abc|", "^$", at(1, 0));
        finds("abc", "c", 2);
    }

    @Says("An atom is a period (any character)")
    private static void anyCharacter() {
        finds("a ~z", "a.~", 0);
        finds("xa~z", "a.z", 1);
        finds("xa z", "a.z", 1);
        findsNothing("az", "a.z");
        findsNothing("", ".");
    }

    @Says("[ and what is up to the next ] behind at least one character")
    private static void setsWithTheirEnd() {
        finds("ab]", "[]]", 2);
        findsNothing("ab]", "[c]");
        finds("ab]", "[]x]", 2);
        finds("ab]c", "[b]]", 1);
        findsNothing("ab", "[]");
        findsNothing("ab", "[b");
        findsNothing("ab", "[");
        finds("ab", "[b]", 1);
        finds("ab^", "[^]", 2);
        finds("ab[", "[[]", 2);
    }

    @Says("a character with - and one more behind it means all from the one to the other")
    private static void spansWithTheirEnds() {
        for (String inside : new String[] {"b", "c", "d"}) {
            finds("." + inside, "[b-d]", 1);
        }
        for (String outside : new String[] {"a", "e"}) {
            findsNothing("." + outside, "[b-d]");
        }
        finds("ab", "[b-b]", 1);
        finds("ab", "[ -~]", 1);
        finds("a-", "[b-]", 1);
        finds("a-", "[-b]", 1);
        finds("ab", "[-b]", 1);
        finds("ab", "[b-]", 1);
    }

    @Says("none if the one is greater, and it goes on behind that")
    private static void spansTheWrongWay() {
        findsNothing("bcd-", "[d-b]");
        findsNothing("bcd-", "[c-b]");
        finds("abcd", "[d-bc]", 2);
        finds("ac-e", "[a-c-e]", 1);
        finds("xd-", "[a-c-e]", 2);
        findsNothing("xd", "[a-c-e]");
        finds("abc", "[c-b]*c", 2);
    }

    @Says("others mean themselves, a period and a backslash too")
    private static void setsOfSigns() {
        finds("ab.", "[.]", 2);
        findsNothing("abc", "[.]");
        finds("ab\\", "[\\]", 2);
        finds("ab*", "[*]", 2);
        finds("ab$", "[$]", 2);
        finds("ab^", "[a^]", 2);
    }

    @Says("if it begins with ^ and has more, all characters but those of the rest")
    private static void setsOfAllBut() {
        finds("aab", "[^a]", 2);
        finds("aa~", "[^a]", 2);
        finds("aa ", "[^a]", 2);
        findsNothing("aaa", "[^a]");
        finds("abe", "[^a-d]", 2);
        finds("b^a", "[^]", 1);
        finds("^^a", "[^^]", 2);
        findsNothing("^^", "[^^]");
        finds("a-b", "[^-a]", 2);
        finds("abc", "[^c-b]", 1);
    }

    @Says("a backslash and a character (that one)")
    private static void charactersBehindABackslash() {
        for (char c : ".[]*^$\\/ab~ ".toCharArray()) {
            finds("-" + c + "-", "\\" + c, 1);
            finds("-" + c + c + "-", "\\" + c + "*-$", 1);
        }
        findsNothing("ab", "\\.");
        findsNothing("ab", "\\$");
    }

    @Says("each perhaps with a * behind it")
    private static void atomsWithAStar() {
        for (String atom : new String[] {"b", ".", "[b]", "[^c]", "\\b", "[a-b]"}) {
            does("cbbbbc", "/c" + ENTER + ":s/^c" + atom + "*c$/z/" + ENTER, "z", 0);
            does("cc", ":s/^c" + atom + "*c$/z/" + ENTER, "z", 0);
        }
    }

    @Says("(that one; also ] and ^ and a $ that is not the last character)")
    private static void signsThatMeanThemselves() {
        finds("ab]", "]", 2);
        finds("ab^", "b^", 1);
        finds("a|^^", "^^^", at(1, 0));
        finds("ab$c", "$c", 2);
        finds("abc$", "$$", 3);
        finds("ab$$", "$*$", 2);
        findsNothing("ab$c", "b$");
    }

    @Says("What can't be read so is no pattern (a [ without ], a * behind nothing, ^ or a *, a backslash at the end, no characters)")
    private static void noPatterns() {
        for (String none : new String[] {"[", "[]", "[^", "[ab", "a[b", "[]b", "*", "*a", "^*", "^*a", "a**", "a*b**", ".**", "\\",
            "a\\", "^\\", "a*\\", ""}) {
            findsNothing("ab[]^*\\", none);
            if (!none.isEmpty()) {
                rings("ab[]^*\\", "", ":/" + none + "/" + ENTER);
            }
            rings("ab[]^*\\", "", ":s/" + none + "/x/" + ENTER);
            rings("ab[]^*\\", "", ":g/" + none + "/d" + ENTER);
        }
        for (String none : new String[] {"b\\b", "[b]", "[^]"}) {
            KeyScreen x = with("ab[]^*\\");
            due("what BACK took out of " + none, type(x, "/" + none + BACK + ENTER) + x.cursor(), "0".repeat(none.length() + 2) + "1" + 0);
        }
        finds("abc", "bx" + BACK, 1);
        finds("abc", "b*" + BACK, 1);
        finds("abc", "b$" + BACK, 1);
        finds("ab*", "\\*", 2);
        finds("ab**", "\\**$", 2);
        finds("ab\\", "\\\\", 2);
    }

    @Says("It MATCHES at place p of a line from 0 to the length up to q")
    private static void placesFromNoughtToTheLength() {
        does("ab", ":s/$/c/" + ENTER, "abc", 0);
        does("ab", ":s/^/c/" + ENTER, "cab", 0);
        does("ab", ":s/z*$/c/" + ENTER, "abc", 0);
        does("", ":s/^$/c/" + ENTER, "c", 0);
        does("", ":s/z*/c/" + ENTER, "c", 0);
        does("ab", ":s/b/c/" + ENTER, "ac", 0);
    }

    @Says("one for each, for one with * any number")
    private static void anyNumber() {
        finds("xac", "ab*c", 1);
        finds("xabc", "ab*c", 1);
        finds("x" + "a" + "b".repeat(17) + "c", "ab*c", 1);
        findsNothing("xabb", "ab*c");
        findsNothing("xa", "ab");
        does("aab", ":s/a*a*a*b/z/" + ENTER, "z", 0);
        does("aab", ":s/.*ab/z/" + ENTER, "z", 0);
        finds("ab", "x*y*b", 1);
        finds("abb", "b[b]", 1);
        finds("abb", "[b][b]", 1);
        finds("xab", "a*ab", 1);
    }

    @Says("with ^ p must be 0")
    private static void signOfTheBeginning() {
        findsNothing("aab", "^b");
        finds("aab|b", "^b", at(1, 0));
        does("aaa", ":s/^a/z/g" + ENTER, "zaa", 0);
    }

    @Says("with $ q the length")
    private static void signOfTheEnd() {
        finds("abab", "b$", 3);
        findsNothing("xba", "b$");
        does("aaa", ":s/a$/z/g" + ENTER, "aaz", 0);
        does("aaa", ":s/a*$/z/" + ENTER, "z", 0);
    }

    @Says("The MATCH at a place is the longest one there")
    private static void theLongestMatch() {
        does("aaab", ":s/a*/z/" + ENTER, "zb", 0);
        does("abab", ":s/a.*b/z/" + ENTER, "z", 0);
        does("abcbd", ":s/a[bc]*b/z/" + ENTER, "zd", 0);
        does("aab", ":s/a*a*b*/z/" + ENTER, "z", 0);
        does("baaa", ":s/a*/z/" + ENTER, "zbaaa", 0);
    }

    // The SEARCH line

    @Says("(from 0 to the line's length) at which it matches, of those behind the cursor's")
    private static void behindTheCursor() {
        finds("aba", "a", 2);
        finds("aa", "a", 1);
        does("a|aa", "/a" + ENTER + "/a" + ENTER, "a|aa", at(1, 1));
        does("ab|c", "/$" + ENTER + "/$" + ENTER, "ab|c", 1);
        does("ab|", "/$" + ENTER + "j/$" + ENTER, "ab|", 1);
        finds("a|ba", "^b", at(1, 0));
    }

    @Says("line by line, from the first line again, up to the cursor's itself (found there alone nothing moves)")
    private static void fromTheFirstLineAgain() {
        does("ab|cd", "jl/a" + ENTER, "ab|cd", 0);
        does("abc|d", "2l/b" + ENTER, "abc|d", 1);
        does("abc|d", "l/b" + ENTER, "abc|d", 1);
        does("abc", "2l/[ab]" + ENTER, "abc", 0);
        does("ab|cb", "Gl/b" + ENTER, "ab|cb", 1);
        does("", "/^" + ENTER, "", 0);
        does("ab", "l/^ab$" + ENTER, "ab", 0);
        does("a|b|c", "j/[ac]" + ENTER + "/[ac]" + ENTER, "a|b|c", 0);
    }

    @Says("Rings if there is none.")
    private static void nothingFound() {
        findsNothing("abc|def", "x");
        findsNothing("", "a");
        findsNothing("abc", "abcd");
        findsNothing("abc|def", "cd");
    }

    // The COMMAND line: ranges

    private static void lineRings(String lines, String before, String line) {
        rings(lines, before, ":" + line + ENTER);
    }

    private static void lineDoes(String lines, String before, String line, String text, int cursor) {
        does(lines, before + ":" + line + ENTER, text, cursor);
    }

    @Says("A COMMAND line (begun with :) has a RANGE, then a command, and nothing else (no blanks between)")
    private static void nothingElseInALine() {
        for (String line : new String[] {" ", " d", "d ", "1 d", "1, 2d", "1 ,2d", "dd", "d1", "ww", "w1", "wq", "pre ", "prex", "pr", "p",
            "prew", "s/a/b/ ", "s/a/b/g ", "s/a/b/gg", "s/a/b/d", "g/a/d ", "g/a/ d", "g /a/d", "1,2,1d", "1d2", "x", "1x", "D", "ds", "%%",
            "%,1", "1,%", ",", ",1", "1,", "%1", ".1", "$$", "..", "-1", "+", "1;2"}) {
            lineRings("abc|abd|abe", "jlyl", line);
        }
        for (String line : new String[] {"1/", "1:", "0:", ":", "::", "1,:", "1,0:", "x/1/2/", "g/1/x/1/2/"}) {
            lineRings(TEN_LINES, "j", line);
        }
    }

    @Says("The range is nothing, or %: all lines, or an ADDRESS, or two with a comma between")
    private static void allLines() {
        lineDoes("a|b|c", "j", "%d", "", 0);
        lineDoes("a|b|c", "j", "%", "a|b|c", at(2, 0));
        lineDoes("", "", "%", "", 0);
        lineDoes("a|b|c", "j", "1,2d", "c", 0);
        lineDoes("a|b|c", "j", "1d", "b|c", 0);
        lineDoes("a|b|c", "j", "d", "a|c", at(1, 0));
    }

    @Says("An address is a number (of a line, counted from 1), a period (L), $ (the last line)")
    private static void addresses() {
        lineDoes("ab|cd|ef", "jl", "1", "ab|cd|ef", 0);
        lineDoes("ab|cd|ef", "jl", ".", "ab|cd|ef", at(1, 0));
        lineDoes("ab|cd|ef", "jl", "$", "ab|cd|ef", at(2, 0));
        lineDoes("ab|cd|ef", "jl", ".,$d", "ab", 0);
        lineDoes("ab|cd|ef", "jl", "1,.d", "ef", 0);
        lineDoes("ab", "", "$,.d", "", 0);
    }

    @Says("(the first of the lines behind L, from the first again and L as the last, in which it matches somewhere")
    private static void addressesByPattern() {
        lineDoes("ab|ac|ad", "j", "/a/", "ab|ac|ad", at(2, 0));
        lineDoes("ab|ac|ad", "G", "/a/", "ab|ac|ad", 0);
        lineDoes("ab|ac|ad", "jl", "/c/", "ab|ac|ad", at(1, 0));
        lineDoes("ab|ac|ad", "j", "/b/", "ab|ac|ad", 0);
        lineDoes("ab", "l", "/b/", "ab", 0);
        lineDoes("ab|ac|ad", "l", "/$/", "ab|ac|ad", at(1, 0));
        lineDoes("ab|ac|ad", "G", "/b/,/c/d", "ad", 0);
        lineRings("ab|ac|ad", "l", "/x/");
        lineRings("ab|ac|ad", "j", "/d/,/b/");
        lineRings("ab|ac|ad", "j", "1,/x/");
        lineDoes("xb|xc|d", "j", "/x/", "xb|xc|d", 0);
        lineDoes("a|ab|ba|c", "", "/a$/", "a|ab|ba|c", at(2, 0));
        lineDoes("c|ba|ab|c", "", "/^a/", "c|ba|ab|c", at(2, 0));
    }

    @Says("the pattern ends at the next /, also in [ ] and behind a backslash)")
    private static void patternsEndAtTheNextSlash() {
        lineRings("a/b|c", "j", "/[/]/");
        lineRings("a/b|c", "j", "/\\//");
        lineRings("a/b|c", "j", "/a");
        lineRings("a/b|c", "j", "//");
        lineRings("a/b", "", "s/[/]/x/");
        lineRings("a/b", "", "s/\\//x/");
        lineRings("a/b", "", "g/[/]/d");
        lineRings("a/b", "", "g/\\//d");
        finds("a/b", "/", 1);
        finds("a/b", "[/]", 1);
        finds("a/b", "\\/", 1);
    }

    @Says("Numbers have 1 or 2 digits (05 is 5; there is no line 0)")
    private static void numbersOfLines() {
        lineDoes(TEN_LINES, "", "05", TEN_LINES, at(4, 0));
        lineDoes(TEN_LINES, "", "5", TEN_LINES, at(4, 0));
        lineDoes(TEN_LINES, "", "10", TEN_LINES, at(9, 0));
        lineDoes(TEN_LINES, "", "09,10d", "1|2|3|4|5|6|7|8", at(7, 0));
        for (String line : new String[] {"0", "00", "000", "005", "010", "100", "0d", "0,1d", "00w", "0pre"}) {
            lineRings(TEN_LINES, "j", line);
        }
    }

    @Says("The range must be lines that are there, and the second not before the first")
    private static void rangesThatAreNotThere() {
        lineDoes("a|b|c", "", "3", "a|b|c", at(2, 0));
        lineDoes("a|b|c", "", "2,2d", "a|c", at(1, 0));
        for (String line : new String[] {"4", "4d", "11d", "99", "1,4", "4,4", "4,1", "2,1", "3,2d", "$,1", ".,1w", "4w", "4pre", "2,1pre",
            "4g/a/d", "4s/a/x/", "3,2s/a/x/"}) {
            lineRings("a|b|c", "j", line);
        }
        lineRings(TEN_LINES, "", "11");
    }

    @Says("With nothing it is L, but all lines for w and g")
    private static void withoutRange() {
        lineDoes("ab|ac|ad", "jl", "d", "ab|ad", at(1, 0));
        lineDoes("ab|ac|ad", "jl", "s/a/x/", "ab|xc|ad", at(1, 0));
        lineDoes("ab|ac|ad", "jl", "g/a/s/a/x/", "xb|xc|xd", at(2, 0));
        lineDoes("ab|ac|ad", "jl", ".g/a/s/a/x/", "ab|xc|ad", at(1, 0));
        KeyScreen x = does("ab|ac|ad", "j:w" + ENTER, "ab|ac|ad", at(1, 0));
        syncs(x, 4);
        due("all lines are written", stored(x), "ab|ac|ad");
        KeyScreen y = does("ab|ac|ad", "j:.w" + ENTER, "ab|ac|ad", at(1, 0));
        syncs(y, 2);
        due("one line is written", stored(y), "ac");
    }

    // The COMMAND line: its commands

    @Says("Commands (CHANGES but for w, pre, and no command)")
    private static void linesThatAreChanges() {
        for (String line : new String[] {"w", "1w", "pre", "2", "", "%"}) {
            does("abc|d", "lx:" + line + ENTER + "u", "abc|d", 1);
        }
        for (String line : new String[] {"d", "s/a/z/", "%s/a/z/g", "g/a/d", "g/a/s/a/z/", "g/a/s/q/z/"}) {
            does("abc|d", "lx0:" + line + ENTER + "u", "ac|d", 0);
        }
    }

    @Says("nothing: the cursor goes to the last line of the range, column 0 (an empty line does nothing, and does not ring)")
    private static void noCommand() {
        lineDoes("abc|d", "2l", "", "abc|d", 2);
        lineDoes("abc|d", "2l", "1", "abc|d", 0);
        lineDoes("abc|d", "2l", "1,2", "abc|d", at(1, 0));
        lineDoes("abc|d", "x2l:2" + ENTER, "", "bc|d", at(1, 0));
        does("abc|d", "lx:2" + ENTER + "u", "abc|d", 1);
    }

    @Says("d: as dd, of the range")
    private static void deletedRanges() {
        KeyScreen x = does("ab|cd|ef", "Gl:1,2d" + ENTER, "ef", 0);
        due("the buffer", x.buffer() + held(x), 2 + "ab|cd");
        due("u", type(x, "u") + text(x) + x.cursor(), "0" + "ab|cd|ef" + at(2, 1));
        lineDoes("ab|cd|ef", "", "2,$d", "ab", 0);
        lineDoes("ab|cd|ef", "", "%d", "", 0);
    }

    @Says("in each line of the range the first match")
    private static void theFirstMatchOfEachLine() {
        lineDoes("aab|baa|ccc", "", "%s/a/x/", "xab|bxa|ccc", at(1, 0));
        lineDoes("aab|baa|ccc", "", "2s/a/x/", "aab|bxa|ccc", at(1, 0));
        lineDoes("aab|baa|ccc", "G", "1,2s/a/x/", "xab|bxa|ccc", at(1, 0));
    }

    @Says("(with g all from the left, each at the first place from the end of the one before on, but no empty one at that end)")
    private static void allMatches() {
        lineDoes("aaaaa", "", "s/aa/x/g", "xxa", 0);
        lineDoes("abc", "", "s/z*/-/g", "-a-b-c-", 0);
        lineDoes("abc", "", "s/b*/-/g", "-a-c-", 0);
        lineDoes("bab", "", "s/b*/-/g", "-a-", 0);
        lineDoes("abb", "", "s/b*$/-/g", "a-", 0);
        lineDoes("", "", "s/z*/-/g", "-", 0);
        lineDoes("ab", "", "s/.*/-/g", "-", 0);
        lineDoes("ab", "", "s/$/-/g", "ab-", 0);
        lineDoes("aXb", "", "s/[aX]*/-/g", "-b-", 0);
        lineDoes("aaaaaaaaaaaaaaaaaaaa", "", "s/a/b/g", "bbbbbbbbbbbbbbbbbbbb", 0);
    }

    @Says("(which may be empty; both / behind must be there)")
    private static void theReplacementAndItsSlashes() {
        lineDoes("abc", "", "s/b//", "ac", 0);
        lineDoes("abc", "", "s/.*//", "", 0);
        lineDoes("aba", "", "s/a//g", "b", 0);
        for (String line : new String[] {"s", "s/", "s/b", "s/b/", "s/b/x", "s/b/xg", "s/b/\\/", "s/b/x\\/", "s/b/x\\/g", "g/a/s/b/x", "sb/x/", "sxb/y/",
            "gxb/d"}) {
            lineRings("abc", "", line);
        }
        for (String line : new String[] {":s/b/x/", ":g/b/s/b/x/", ":s/b/", ":/b/"}) {
            rings("abc|b", "", line + BACK + ENTER);
        }
    }

    @Says("& is what was matched, a backslash and a character that one, others but / themselves")
    private static void signsOfTheReplacement() {
        lineDoes("abc", "", "s/b/&&/", "abbc", 0);
        lineDoes("abc", "", "s/z*/<&>/", "<>abc", 0);
        lineDoes("abc", "", "s/b/\\&/", "a&c", 0);
        lineDoes("abc", "", "s/b/\\\\/", "a\\c", 0);
        lineDoes("abc", "", "s/b/\\x\\\\&/", "ax\\bc", 0);
        lineDoes("abc", "", "s/b/.*[$^]/", "a.*[$^]c", 0);
        lineDoes("abc", "", "s/.*/&&/", "abcabc", 0);
    }

    @Says("it ends at the first / that is not behind such a backslash")
    private static void whereTheReplacementEnds() {
        lineDoes("abc", "", "s/b/\\//", "a/c", 0);
        lineDoes("abc", "", "s/b/\\\\/", "a\\c", 0);
        lineDoes("abc", "", "s/b/x\\/y/g", "ax/yc", 0);
        lineRings("abc", "", "s/b/x/y/");
        lineRings("abc", "", "s/b/\\\\/y/");
        lineRings("abc", "", "s/b/[/]/");
    }

    @Says("Rings if there is no match in all the range. The cursor is at the last line in which there was one, column 0")
    private static void noMatchInTheRange() {
        lineRings("ab|cd|ef", "l", "s/c/x/");
        lineRings("ab|cd|ef", "l", "2,3s/a/x/");
        lineRings("ab|cd|ef", "l", "%s/x/y/g");
        lineRings("", "", "s/a/x/");
        lineDoes("ab|cb|ef", "Gl", "%s/b/x/", "ax|cx|ef", at(1, 0));
        lineDoes("ab|cb|eb", "l", "%s/a/x/", "xb|cb|eb", 0);
        lineDoes("ab|cb|eb", "l", "%s/b/b/", "ab|cb|eb", at(2, 0));
    }

    @Says("first all lines of the range in which it matches are noted (rings if there is none)")
    private static void noLinesNoted() {
        lineRings("ab|cd", "l", "g/x/d");
        lineRings("ab|cd", "l", "2g/a/d");
        lineRings("ab|cd", "l", "g/x/s/a/y/");
        lineRings("", "", "g/./d");
        lineDoes("", "", "g/^/d", "", 0);
        lineDoes("aab|ab", "", "g/^a/s/a/x/", "xab|xb", at(1, 0));
        lineDoes("ab|ba|cb", "", "g/b$/s/b/x/", "ax|ba|cx", at(2, 0));
        lineDoes("ab|ba|cb", "", "g/^b/s/b/x/", "ab|xa|cb", at(1, 0));
        lineDoes("ab|bb|b", "", "g/a/s/.*/b/", "b|bb|b", 0);
        lineDoes("ab|cd", "", "g/b/s/b/d/", "ad|cd", 0);
    }

    @Says("then for each of them in order L is that line (where it stands then) and the command is done with it as its range")
    private static void oneLineAfterAnother() {
        lineDoes("aab|b|aab", "j", "g/a/s/a/x/", "xab|b|xab", at(2, 0));
        lineDoes("aab|b|aab", "j", "g/a/s/a/x/g", "xxb|b|xxb", at(2, 0));
        lineDoes("a|b|a|b", "", "g/a/d", "b|b", at(1, 0));
        lineDoes("a|b|a|b", "", "g/b/d", "a|a", at(1, 0));
        lineDoes("a|b|a|b", "G", "1,3g/a/d", "b|b", at(1, 0));
        lineDoes("a|b|a|b", "G", "1,2g/a/d", "b|a|b", 0);
    }

    @Says("as if alone (d: the BUFFER has the last one)")
    private static void theBufferHasTheLastLine() {
        KeyScreen x = does("ab|c|ad|e", ":g/a/d" + ENTER, "c|e", at(1, 0));
        due("the buffer", x.buffer() + held(x), 1 + "ad");
        KeyScreen y = does("ab|ac", ":g/a/d" + ENTER, "", 0);
        due("the buffer", y.buffer() + held(y) + y.lines(), 1 + "ac" + 1);
    }

    @Says("(lines taken out change the numbers, not the lines noted")
    private static void linesTakenOutOneByOne() {
        lineDoes("a|a|b|a|a|b", "", "g/a/d", "b|b", at(1, 0));
        lineDoes("a|a|a|b", "", "g/a/d", "b", 0);
        lineDoes("b|a|a|a", "", "g/a/d", "b", 0);
        lineDoes("b|a|c|a|d", "", "2,3g/./d", "b|a|d", at(1, 0));
        lineDoes(TEN_LINES, "", "g/./d", "", 0);
        lineDoes(TEN_LINES, "", "g/[1-9]/d", "0", 0);
    }

    @Says("an s without a match there is nothing, a change all the same, the cursor stays where it was before that line)")
    private static void aGlobalWithoutExchange() {
        lineDoes("ab|cd", "jl", "g/a/s/x/y/", "ab|cd", at(1, 1));
        lineDoes("ab|ac|ad", "Gl", "g/a/s/b/x/", "ax|ac|ad", 0);
        lineDoes("ab|ac|ad", "Gl", "g/a/s/c/x/", "ab|ax|ad", at(1, 0));
        KeyScreen x = does("ab|cd", "x$:g/b/s/x/y/" + ENTER, "b|cd", 0);
        due("the OTHER is the text ahead of it", type(x, "u") + text(x), "0" + "b|cd");
    }

    @Says("g/pattern/ and d, or s as above")
    private static void noOtherCommandsOfG() {
        for (String line : new String[] {"g", "g/", "g/a", "g/a/", "g/a/w", "g/a/pre", "g/a/g/a/d", "g/a/1d", "g/a/%d", "g/a/x", "g/a/dd",
            "g/a/s", "g/a/s/a", "g/a/s/a/", "g//d", "gd", "g d", "g/a/s/*/x/", "g/a/s//x/"}) {
            lineRings("ab|cd", "l", line);
        }
    }

    @Says("Where a line would be longer than 20 (behind all exchanges in it), all of a command line rings")
    private static void aLineThatWouldBeTooLong() {
        lineDoes(NINETEEN, "", "s/a/aa/", "a" + NINETEEN, 0);
        lineRings(TWENTY, "", "s/a/aa/");
        lineRings("a|" + TWENTY, "", "%s/a/aa/");
        lineRings(TWENTY + "|a", "", "%s/a/aa/");
        lineRings("ab|ab" + "c".repeat(18), "", "g/a/s/b/bb/");
        lineDoes("abbb" + "c".repeat(16), "", "s/a*b*/abcd/", "abcd" + "c".repeat(16), 0);
        lineDoes("a" + "b".repeat(19), "", "s/b*/cc/g", "ccacc", 0);
        lineDoes("abcdefghij", "", "s/./&&/g", "aabbccddeeffgghhiijj", 0);
        lineRings("abcdefghijk", "", "s/./&&/g");
        lineRings("ab", "", "s/a*/12345678901234567890/");
        lineDoes("a", "", "s/a/12345678901234567890/", "12345678901234567890", 0);
    }

    @Says("A line that rings leaves the OTHER; of one that is a change the OTHER is the text ahead of all of it")
    private static void theOtherOfLines() {
        for (String line : new String[] {"9d", "s/q/x/", "g/q/d", "%s/b/" + "x".repeat(20) + "/", "q", "/q/"}) {
            KeyScreen x = rings("abc|d", "lx", ":" + line + ENTER);
            due("u behind " + line, type(x, "u") + text(x) + x.cursor(), "0" + "abc|d" + 1);
        }
        KeyScreen fresh = new KeyScreen(10);
        due("the first change", type(fresh, ":s/^/ab/" + ENTER) + type(fresh, "u") + text(fresh), "0".repeat(9) + "0");
        does("ab|ac|d", "jl:g/a/d" + ENTER + "u", "ab|ac|d", at(1, 1));
        does("ab|ac|d", "jl:g/a/s/a/x/" + ENTER + "u", "ab|ac|d", at(1, 1));
        does("ab|ac|d", "jl:%s/[ad]/x/" + ENTER + "u", "ab|ac|d", at(1, 1));
        does("ab|ac|d", "lx:w" + ENTER + "j:pre" + ENTER + "u", "ab|ac|d", 1);
    }

    @Says("w: a WRITE of the range (just these lines). pre: a PRESERVE of the text, whatever the range")
    private static void whatIsWritten() {
        KeyScreen x = does("ab|cd|ef", ":2,3w" + ENTER, "ab|cd|ef", 0);
        due("blocks", x.sync(), 2);
        syncs(x, 2);
        due("the file", stored(x), "cd|ef");
        KeyScreen y = does("ab|cd|ef", ":2,3pre" + ENTER, "ab|cd|ef", 0);
        due("blocks", y.sync(), 3);
        syncs(y, 3);
        due("the safe text", y.crash() + text(y) + y.file(), 3 + "ab|cd|ef" + -1);
    }

    // THE DISK

    @Says("THE DISK keeps a FILE and a SAFE TEXT, at first none")
    private static void noFileAtFirst() {
        KeyScreen x = with("ab|c");
        due("file", "" + x.file() + x.stored(0, 0) + x.sync(), "-10-1");
        due("safe text", x.crash() + text(x), 1 + "");
    }

    @Says("A WRITE or PRESERVE of k lines is a job of k + 1 blocks, of the lines as they are then")
    private static void blocksOfAJob() {
        KeyScreen x = with("");
        type(x, ":w" + ENTER);
        due("one empty line", "" + x.sync() + x.file() + x.sync() + x.file() + x.stored(0, 0), "1-1010");
        KeyScreen y = with(TEN_LINES);
        type(y, ":w" + ENTER + ":%d" + ENTER);
        due("ten lines", y.sync(), 10);
        syncs(y, 9);
        due("the last block", "" + y.file() + y.sync() + y.file() + stored(y), "-1" + 0 + 10 + TEN_LINES);
        KeyScreen z = with("ab|c");
        type(z, ":pre" + ENTER + "x");
        due("a PRESERVE of two", "" + z.sync() + z.sync() + z.sync() + z.sync() + z.crash() + text(z), "210-12" + "ab|c");
    }

    @Says("at most 3 jobs wait, one of which some blocks are written among them (otherwise the line rings)")
    private static void aFourthJob() {
        for (String line : new String[] {":w", ":1w", ":pre"}) {
            KeyScreen x = rings("ab|c", ":w" + ENTER + ":pre" + ENTER + ":1w" + ENTER, line + ENTER);
            due("blocks", x.sync(), 7);
            due("one begun waits, too", type(x, line + ENTER), "0".repeat(line.length()) + "1");
            due("blocks", "" + x.sync() + x.sync(), "65");
            due("one less", type(x, line + ENTER), "0".repeat(line.length() + 1));
            due("and three again", type(x, line + ENTER), "0".repeat(line.length()) + "1");
        }
        KeyScreen y = with("a");
        for (int i = 0; i < 8; i++) {
            due("write " + i, type(y, ":w" + ENTER) + y.sync() + y.sync() + y.sync(), "000" + "10-1");
        }
    }

    @Says("sync() writes the next block of the oldest job; with its last block the file, or the safe text, is those lines")
    private static void theOldestJobFirst() {
        KeyScreen x = with("ab|c");
        type(x, ":1w" + ENTER + ":pre" + ENTER + ":2w" + ENTER);
        due("the first file", "" + x.sync() + x.file() + x.sync() + stored(x), "6-15" + "ab");
        due("the safe text", "" + x.sync() + x.sync() + x.sync() + stored(x), "432" + "ab");
        due("the second file", "" + x.sync() + stored(x) + x.sync() + stored(x), "1ab" + "0c");
        KeyScreen y = with("ab|c");
        type(y, ":pre" + ENTER);
        syncs(y, 3);
        type(y, "x:pre" + ENTER);
        syncs(y, 2);
        due("a safe text stays until the last block", y.crash() + text(y), 2 + "ab|c");
        type(y, "x:pre" + ENTER);
        syncs(y, 3);
        due("the newer one", y.crash() + text(y), 2 + "b|c");
        due("and again", y.crash() + text(y), 2 + "b|c");
    }

    // The CRASH

    @Says("After a CRASH everything is as at first (no job waits; no OTHER, buffer, latest change)")
    private static void everythingAsAtFirst() {
        KeyScreen x = with("abc|d");
        type(x, "lxyyj:w" + ENTER + ":w" + ENTER + ":pre" + ENTER);
        x.sync();
        due("crash", x.crash() + text(x) + x.cursor() + x.mode() + x.buffer() + x.held(0, 0), 1 + "" + 0 + 0 + -1 + 0);
        due("no job", "" + x.sync() + x.file(), "-1-1");
        due("no OTHER, no latest change, no buffer", type(x, "u.pP"), "1111");
        due("three jobs may wait again", type(x, ":w" + ENTER + ":w" + ENTER + ":w" + ENTER), "000000000");
        for (String keys : new String[] {"3", "d", "12c", "iab", ":1", "/a", "A" + ENTER + "b"}) {
            KeyScreen y = new KeyScreen(10);
            type(y, "iabc" + ESC + keys);
            due("crash behind " + keys, y.crash() + text(y) + y.mode() + y.cursor(), 1 + "" + 0 + 0);
            due("a new command behind " + keys, type(y, "$iz" + ESC + ":" + ENTER) + text(y), "000000" + "z");
        }
    }

    @Says("but for the file, the safe text, the width, and what the terminal shows and was sent")
    private static void whatOutlivesACrash() {
        KeyScreen x = new KeyScreen(7);
        type(x, "iab" + ENTER + "c" + ESC + ":w" + ENTER + ":1pre" + ENTER);
        syncs(x, 6);
        int sent = x.sent();
        due("crash", x.crash(), 2);
        due("the file", stored(x), "ab|c");
        due("the width", "" + x.cell(0, 6) + " " + x.cell(0, 7), "32 0");
        due("what was sent", x.sent(), sent);
        due("what is shown", screen(x, 7), "ab|c|~|~|~");
        type(x, "dd");
        due("the safe text", x.crash() + text(x), 2 + "ab|c");
        x.resize(9);
        x.crash();
        due("the width", "" + x.cell(0, 8) + " " + x.cell(0, 9), "32 0");
    }

    @Says("and the text is the safe text, if there is one, as new lines")
    private static void theSafeTextStaysAsItIs() {
        KeyScreen x = with("ab|c");
        due("without one", x.crash() + text(x), 1 + "");
        type(x, "iab" + ENTER + "c" + ESC + ":pre" + ENTER);
        syncs(x, 3);
        due("with one", x.crash() + text(x), 2 + "ab|c");
        type(x, "xdd:%s/c/zz/" + ENTER + "Onew" + ESC);
        due("changes don't touch it", x.crash() + text(x), 2 + "ab|c");
    }

    @Says("and the text is the safe text, if there is one, as new lines")
    private static void safeTextsOfEachSize() {
        String lines = "a";
        for (int many = 1; many <= 10; many++) {
            KeyScreen x = with(lines);
            type(x, ":pre" + ENTER);
            syncs(x, many + 1);
            due("something that is lost", type(x, "xddix"), "00000");
            due("a safe text of " + many + " lines", x.crash() + text(x) + x.cursor() + x.mode(), many + lines + 0 + 0);
            lines += "|" + (char) ('a' + many);
        }
        KeyScreen y = new KeyScreen(10);
        type(y, ":pre" + ENTER);
        syncs(y, 2);
        type(y, "iab" + ENTER + "c");
        due("an empty safe text", y.crash() + text(y), 1 + "");
    }

    // THE WINDOW

    @Says("THE WINDOW has 5 rows of WIDTH cells")
    private static void rowsAndCells() {
        for (int width = 5; width <= 20; width++) {
            KeyScreen x = new KeyScreen(width);
            due("the last cell", x.cell(4, width - 1), 32);
            due("no more cells", "" + x.cell(4, width) + x.cell(5, 0) + x.cell(0, width) + x.cell(0, -1) + x.cell(-1, 0), "00000");
        }
    }

    @Says("each line takes the rows that it needs (at least one)")
    private static void rowsOfLines() {
        KeyScreen x = new KeyScreen(5);
        type(x, "i" + ENTER + "abcdef" + ENTER + "g" + ESC + "1G");
        due("an empty line has a row", screen(x, 5), "|abcde|f|g|~");
        KeyScreen y = new KeyScreen(5);
        type(y, "i" + TWENTY + ENTER + "u" + ESC);
        due("four rows and one", screen(y, 5), "abcde|fghij|klmno|pqrst|u");
    }

    @Says("(no row more when they just fill theirs)")
    private static void linesThatJustFillTheirRows() {
        for (int width = 5; width <= 20; width++) {
            KeyScreen x = new KeyScreen(width);
            String line = TWENTY.substring(0, width);
            type(x, "i" + line);
            due("just full", "" + (char) x.cell(0, width - 1) + (char) x.cell(1, 0), line.substring(width - 1) + "~");
            if (width < 20) {
                type(x, "z");
                due("one more", "" + (char) x.cell(1, 0) + (char) x.cell(1, 1) + (char) x.cell(2, 0), "z ~");
            }
        }
        KeyScreen y = new KeyScreen(10);
        type(y, "i" + TWENTY + ENTER + "u" + ESC);
        due("two rows that are full", screen(y, 10), "abcdefghij|klmnopqrst|u|~|~");
    }

    @Says("a line for which not enough rows are left shows @ at the beginning of each of those")
    private static void notEnoughRows() {
        KeyScreen x = new KeyScreen(5);
        type(x, "i1" + ENTER + "2" + ENTER + "3" + ENTER + "abcdefghijklm" + ENTER + "z" + ESC + "1G");
        due("two rows for three", screen(x, 5), "1|2|3|@|@");
        type(x, "dd");
        due("three rows for three", screen(x, 5), "2|3|abcde|fghij|klm");
        type(x, "yyPP");
        due("one row for three", screen(x, 5), "2|2|2|3|@");
        type(x, "P");
        due("no row for three", screen(x, 5), "2|2|2|2|3");
    }

    @Says("rows behind the last line show ~ there; other cells are blank (32)")
    private static void rowsBehindTheLastLine() {
        KeyScreen x = new KeyScreen(5);
        type(x, "i1" + ENTER + "2" + ENTER + "3" + ENTER + "4");
        due("one row is left", screen(x, 5), "1|2|3|4|~");
        due("blank", "" + x.cell(3, 1) + x.cell(4, 1) + x.cell(4, 4), "323232");
        type(x, ENTER + "5");
        due("none is left", screen(x, 5), "1|2|3|4|5");
        type(x, ESC + "4dk");
        due("all but one", screen(x, 5), "|~|~|~|~");
    }

    @Says("After each key (also if it rings; the period is one key), each crash and each resize that is not refused (also to the same width)")
    private static void whenTheTerminalIsSent() {
        int tildes = 4 * 4;
        KeyScreen x = new KeyScreen(5);
        due("a new object", "" + x.sent() + x.cell(1, 0), "032");
        due("no key", "" + x.key(9) + x.sent(), "-10");
        due("a refused resize", "" + x.resize(4) + x.sent(), "false0");
        due("sync", "" + x.sync() + x.sent(), "-10");
        due("a key that rings", type(x, "q") + x.sent(), "1" + tildes);
        KeyScreen y = new KeyScreen(5);
        due("ESC", type(y, ESC) + y.sent(), "0" + tildes);
        KeyScreen z = new KeyScreen(5);
        due("crash", "" + z.crash() + z.sent(), "1" + tildes);
        KeyScreen v = new KeyScreen(5);
        due("resize to the same width", "" + v.resize(5) + v.sent(), "true" + tildes);
        due("and again", "" + v.resize(5) + v.sent(), "true" + 2 * tildes);
    }

    @Says("the period is one key")
    private static void thePeriodIsShownOnce() {
        KeyScreen x = new KeyScreen(20);
        type(x, "iab" + BACK + ESC);
        int sent = x.sent();
        due("two letters and one back", type(x, ".") + text(x) + (x.sent() - sent), "0" + "aa" + 4);
        KeyScreen y = with("1|2|3|4|5|6|7|8");
        due("a change that goes up and down", type(y, "jckx" + ENTER + "y" + ESC) + type(y, "G4G") + y.top(), "0000000" + "000" + 3);
        due("TOP follows behind all of it", type(y, ".") + text(y) + y.top(), "0" + "x|y|x|y|5|6|7|8" + 3);
    }

    @Says("when the cursor's line is above TOP, TOP is that line")
    private static void topGoesUp() {
        KeyScreen x = with(TEN_LINES);
        due("at the end", type(x, "G") + x.top(), "0" + 5);
        due("in the window", type(x, "4k") + x.top(), "00" + 5);
        due("one above it", type(x, "k") + x.top(), "0" + 4);
        due("far above it", type(x, "2G") + x.top(), "00" + 1);
        due("lines taken out", type(x, "GdG") + type(x, ":2,9d" + ENTER) + x.lines() + x.top(), "000" + "000000" + 1 + 0);
    }

    @Says("and while the lines from TOP to the cursor's need more than 5 rows, TOP is one more")
    private static void topGoesDown() {
        KeyScreen x = with(TEN_LINES);
        due("five rows", type(x, "5G") + x.top(), "00" + 0);
        due("six rows", type(x, "6G") + x.top(), "00" + 1);
        due("ten rows", type(x, "G") + x.top(), "0" + 5);
        KeyScreen y = new KeyScreen(5);
        type(y, "i1" + ENTER + "2" + ENTER + TWENTY);
        due("four rows and one", y.top() + screen(y, 5), 1 + "2|abcde|fghij|klmno|pqrst");
        type(y, ENTER);
        due("four rows and one behind", y.top() + screen(y, 5), 2 + "abcde|fghij|klmno|pqrst|");
        type(y, "abcdef");
        due("two rows", y.top() + screen(y, 5), 3 + "abcde|f|~|~|~");
        due("by a resize", "" + y.resize(20) + y.top() + type(y, ESC + "1G3j") + y.top() + y.resize(5) + y.top(),
                "true" + 3 + "00000" + 0 + "true" + 3);
    }

    @Says("Then the terminal, which is blank at first, and blank anew when there was such a resize, is sent what differs")
    private static void theTerminalIsBlankAnew() {
        KeyScreen x = new KeyScreen(5);
        type(x, "iabc" + ESC);
        int sent = x.sent();
        due("nothing differs", type(x, "0$hq") + (x.sent() - sent), "0001" + 0);
        due("a refused resize", "" + x.resize(21) + (x.sent() - sent), "false" + 0);
        due("all anew", "" + x.resize(5) + (x.sent() - sent), "true" + (6 + 16));
        due("all anew", "" + x.resize(6) + (x.sent() - sent), "true" + 2 * (6 + 16));
        due("a crash is not such", x.crash() + "" + (x.sent() - sent), 1 + "" + (2 * (6 + 16) + 6));
        KeyScreen y = new KeyScreen(5);
        type(y, "i  a");
        sent = y.sent();
        due("blanks are there already", "" + y.resize(5) + (y.sent() - sent), "true" + (4 + 16));
    }

    @Says("for each row in which cells differ, 3 characters and those from the first to the last such cell (with those between)")
    private static void fromTheFirstToTheLastCell() {
        KeyScreen x = with("abcde|abcde");
        int sent = x.sent();
        due("one cell", type(x, ":s/a/x/" + ENTER) + (x.sent() - sent), "00000000" + 4);
        sent = x.sent();
        due("two cells and three between", type(x, ":s/.*/abcdx/" + ENTER) + (x.sent() - sent), "0".repeat(13) + 8);
        sent = x.sent();
        due("a row that is now shorter", type(x, "$x") + (x.sent() - sent), "00" + 4);
        sent = x.sent();
        due("two rows", type(x, ":%s/b/y/" + ENTER) + (x.sent() - sent), "000000000" + 8);
        KeyScreen y = with("abc|abd");
        sent = y.sent();
        due("a row that shows ~", type(y, "dd") + (y.sent() - sent), "00" + (4 + 6));
        KeyScreen z = new KeyScreen(20);
        type(z, "i" + TWENTY);
        due("a whole row", z.resize(20), true);
        due("a whole row", z.sent(), (3 + 1) * 20 + 16 + (3 + 20) + 16);
    }

    // The promises, with wrong inputs

    @Says("the width is width, if that is 5 .. 20, otherwise 10.")
    private static void widthsOfNewObjects() {
        for (int width = -3; width < 40; width++) {
            int due = width >= 5 && width <= 20 ? width : 10;
            KeyScreen x = new KeyScreen(width);
            due("width " + width, "" + x.cell(0, due - 1) + x.cell(0, due), "320");
        }
        for (int width : FAR_OFF) {
            KeyScreen x = new KeyScreen(width);
            due("width " + width, "" + x.cell(0, 9) + x.cell(0, 10), "320");
        }
    }

    @Says("`KeyScreen(int width)`: One empty line, the cursor at 0, 0, COMMAND")
    private static void newObjects() {
        KeyScreen x = new KeyScreen(20);
        due("all of it", state(x), "mode 0 cursor 0 text <> buffer -1 <> file -1 top 0 sent 0");
        due("lines", "" + x.lines() + x.length(0), "10");
        due("an object beside it", type(x, "iab" + ESC) + text(new KeyScreen(20)), "0000");
    }

    @Says("`int key(int c)`: Works a key. Answers 0, or 1 when it rings; -1, changing nothing, when c is no key")
    private static void noKeyChangesNothing() {
        for (String before : new String[] {"", "2", "d", "12y", "ix", ":s", "/a"}) {
            KeyScreen x = with("ab cd");
            type(x, before);
            String was = state(x);
            for (int c : new int[] {Integer.MIN_VALUE, -1, 0, 7, 9, 11, 26, 28, 31, 127, 255, 256 + 'x', Integer.MAX_VALUE}) {
                due("key(" + c + ")", x.key(c), -1);
            }
            due("the state behind " + before, state(x), was);
        }
        KeyScreen y = with("ab cd|e");
        due("a count stays", type(y, "2") + y.key(9) + type(y, "x") + text(y), "0-10" + " cd|e");
        due("an operator stays", type(y, "d") + y.key(127) + type(y, "d") + text(y), "0-10" + "e");
    }

    @Says("`boolean resize(int w)`: Makes the width w and answers true; false, changing nothing, when w is not 5 .. 20")
    private static void widthsThatAreRefused() {
        for (int w = -3; w < 40; w++) {
            KeyScreen x = new KeyScreen(7);
            boolean isWidth = w >= 5 && w <= 20;
            due("resize(" + w + ")", x.resize(w), isWidth);
            int width = isWidth ? w : 7;
            due("the width is then", (x.cell(0, width - 1) == 0) + "" + x.cell(0, width), "false0");
        }
        KeyScreen y = with("ab|cd");
        String was = state(y) + screen(y, 20);
        for (int w : FAR_OFF) {
            due("resize(" + w + ")", y.resize(w), false);
        }
        due("nothing has changed", state(y) + screen(y, 20), was);
    }

    @Says("`int sync()`: Writes a block and answers how many blocks wait then, of all jobs; -1 when none waited")
    private static void blocksThatWait() {
        KeyScreen x = with("a|b");
        due("none waits", x.sync(), -1);
        type(x, ":w" + ENTER + ":1w" + ENTER);
        due("of both jobs", "" + x.sync() + x.sync() + x.sync() + x.sync() + x.sync() + x.sync(), "43210-1");
    }

    @Says("`int crash()`: Crashes, and answers how many lines the text has then")
    private static void linesBehindACrash() {
        KeyScreen x = with(TEN_LINES);
        due("without a safe text", x.crash() + "" + x.lines(), "11");
        KeyScreen y = with(TEN_LINES);
        type(y, ":pre" + ENTER + ":2,10d" + ENTER);
        syncs(y, 10);
        due("a block is missing", y.lines() + "" + y.crash(), "11");
        KeyScreen z = with(TEN_LINES);
        type(z, ":pre" + ENTER + ":2,10d" + ENTER);
        syncs(z, 11);
        due("ten lines are safe", z.lines() + "" + z.crash() + z.lines(), "1" + 10 + 10);
    }

    @Says("`int lines()`: How many lines the text has")
    private static void howManyLines() {
        KeyScreen x = new KeyScreen(20);
        for (int lines = 1; lines <= 10; lines++) {
            due("lines", x.lines(), lines);
            type(x, "o" + ESC);
        }
        due("no more", x.lines(), 10);
        due("all taken out", type(x, ":%d" + ENTER) + x.lines(), "0000" + 1);
    }

    @Says("`int length(int line)`: The length of a line; -1 when there is none")
    private static void lengthsOfNoLine() {
        KeyScreen x = with("ab||" + TWENTY);
        due("length", "" + x.length(0) + x.length(1) + x.length(2) + x.length(3) + x.length(9) + x.length(10), "2020-1-1-1");
        for (int line : FAR_OFF) {
            due("length(" + line + ")", x.length(line), -1);
        }
        type(x, "dd");
        due("of a line that is gone", x.length(2), -1);
    }

    @Says("`int letter(int line, int column)`: A character of a line; 0 when there is none")
    private static void lettersOfNoPlace() {
        KeyScreen x = with("ab||c");
        due("letter", "" + x.letter(0, 0) + x.letter(0, 1) + x.letter(0, 2) + x.letter(1, 0) + x.letter(2, 0) + x.letter(3, 0),
                "" + 97 + 98 + 0 + 0 + 99 + 0);
        type(x, "x");
        due("a place that is gone", x.letter(0, 1), 0);
        for (int far : FAR_OFF) {
            due("letter " + far, "" + x.letter(far, 0) + x.letter(0, far) + x.letter(far, far), "000");
        }
        due("behind the end of a line", "" + x.letter(0, 19) + x.letter(0, 20) + x.letter(0, 40), "000");
    }

    @Says("`int cursor()`: The cursor: its line times 32 and its column (in INSERT it may be the length; in PROMPT as before)")
    private static void cursors() {
        KeyScreen x = with(TWENTY);
        due("at the length", type(x, "A") + x.cursor(), "0" + 20);
        due("in PROMPT", type(x, ESC + ":1") + x.cursor(), "000" + 19);
        KeyScreen y = with(TEN_LINES);
        due("the last line", type(y, "GA") + y.cursor(), "00" + (9 * 32 + 1));
    }

    @Says("`int buffer()`: What the buffer holds: the number of lines, 0 for characters; -1 when nothing was put into it")
    private static void whatTheBufferHolds() {
        KeyScreen x = with(TEN_LINES);
        due("nothing", x.buffer(), -1);
        due("a ring puts nothing there", type(x, "yh") + x.buffer(), "01" + -1);
        due("characters", type(x, "yl") + x.buffer(), "00" + 0);
        due("a line", type(x, "yy") + x.buffer(), "00" + 1);
        due("ten lines", type(x, "yG") + x.buffer(), "00" + 10);
        due("characters again", type(x, "x") + x.buffer() + held(x), "0" + 0 + "1");
    }

    @Says("`int held(int i, int column)`: A character of line i of the buffer (of its characters: i 0); 0 when there is none")
    private static void heldOfNoPlace() {
        KeyScreen x = with("ab|c|d");
        due("nothing is held", "" + x.held(0, 0) + x.held(-1, 0), "00");
        type(x, "2yy");
        due("lines", "" + x.held(0, 1) + x.held(0, 2) + x.held(1, 0) + x.held(1, 1) + x.held(2, 0), "" + 98 + 0 + 99 + 0 + 0);
        for (int far : FAR_OFF) {
            due("held " + far, "" + x.held(far, 0) + x.held(0, far) + x.held(far, far), "000");
        }
        type(x, "yl");
        due("characters", "" + x.held(0, 0) + x.held(0, 1) + x.held(1, 0), "" + 97 + 0 + 0);
        type(x, "jyyx:1" + ENTER + "cc");
        due("an empty buffer's line", "" + x.buffer() + held(x), 1 + "ab");
    }

    @Says("`int file()`: The number of lines of the file; -1 when there is none")
    private static void linesOfTheFile() {
        KeyScreen x = with("ab|c");
        due("none", x.file(), -1);
        type(x, ":pre" + ENTER + ":2w" + ENTER + ":w" + ENTER);
        syncs(x, 3);
        due("a safe text is no file", x.file(), -1);
        syncs(x, 2);
        due("one line", x.file(), 1);
        syncs(x, 3);
        due("two lines", x.file(), 2);
    }

    @Says("`int stored(int line, int column)`: A character of a line of the file; 0 when there is none")
    private static void storedOfNoPlace() {
        KeyScreen x = with("ab||c");
        due("no file", "" + x.stored(0, 0) + x.stored(-1, -1), "00");
        type(x, ":w" + ENTER);
        syncs(x, 3);
        due("not yet a file", x.stored(0, 0), 0);
        syncs(x, 1);
        due("stored", "" + x.stored(0, 0) + x.stored(0, 1) + x.stored(0, 2) + x.stored(1, 0) + x.stored(2, 0) + x.stored(3, 0),
                "" + 97 + 98 + 0 + 0 + 99 + 0);
        for (int far : FAR_OFF) {
            due("stored " + far, "" + x.stored(far, 0) + x.stored(0, far) + x.stored(far, far), "000");
        }
    }

    @Says("`int cell(int row, int column)`: What the terminal shows in a cell; 0 when there is no such row or column")
    private static void cellsOfNoPlace() {
        KeyScreen x = new KeyScreen(5);
        type(x, "iab");
        due("cells", "" + x.cell(0, 0) + x.cell(0, 2) + x.cell(1, 0) + x.cell(4, 0) + x.cell(4, 4), "" + 97 + 32 + 126 + 126 + 32);
        due("no cells", "" + x.cell(5, 0) + x.cell(0, 5) + x.cell(-1, 0) + x.cell(0, -1), "0000");
        for (int far : FAR_OFF) {
            due("cell " + far, "" + x.cell(far, 0) + x.cell(0, far) + x.cell(far, far), "000");
        }
        x.resize(20);
        due("wider", "" + x.cell(0, 19) + x.cell(0, 20), "320");
        x.resize(5);
        due("narrower", x.cell(0, 5), 0);
    }

    @Says("From the line TOP on (0 at first)")
    private static void topAtFirst() {
        KeyScreen x = new KeyScreen(5);
        due("a new object", x.top(), 0);
        type(x, "i1" + ENTER + "2" + ENTER + "3" + ENTER + "4" + ENTER + "5");
        due("five lines", x.top() + screen(x, 5), 0 + "1|2|3|4|5");
        type(x, ENTER + "6");
        due("six lines", x.top() + screen(x, 5), 1 + "2|3|4|5|6");
        due("a crash", "" + x.crash() + x.top() + screen(x, 5), "10" + "|~|~|~|~");
    }

    @Says("`int sent()`: How many characters were sent to the terminal so far")
    private static void sentSoFar() {
        KeyScreen x = new KeyScreen(5);
        due("nothing at first", x.sent(), 0);
        due("four rows with ~", type(x, "i") + x.sent(), "0" + 16);
        due("a letter", type(x, "a") + x.sent(), "0" + 20);
        due("a letter in a row of its own", type(x, ENTER + "b") + x.sent(), "00" + (20 + 4 + 4));
        due("a blank before a letter", type(x, ESC + "O" + ESC) + x.sent(), "000" + (28 + 4 + 4));
    }

    @Says("An object is used for at most 512 calls after it has been made; what later calls answer is free")
    private static void fiveHundredAndTwelveCalls() {
        KeyScreen x = new KeyScreen(5);
        for (int i = 0; i < 127; i++) {
            x.key('i');
            x.key('a' + i % 26);
            x.key(27);
            x.key('x');
        }
        type(x, "iz" + ESC);
        due("the 512th call", x.letter(0, 0), (int) 'z');
        KeyScreen y = new KeyScreen(5);
        int ended = 0;
        for (int i = 0; i < 100000; i++) {
            y.key(i * 7919 % 128);
            ended++;
        }
        due("later calls end, whatever they answer", ended, 100000);
    }

    // What names no boundary

    @Says("A screen editor worked by keys: a text of lines, commands with counts, operators and motions, lines of commands with addresses "
            + "and patterns, undo and repetition, a window that is kept up to date on a terminal, and a disk from which the text is recovered "
            + "after a crash.")
    private static void fromTheFirstKeyToTheCrash() {
        KeyScreen x = new KeyScreen(8);
        type(x, "ione two" + ENTER + "three" + ENTER + "four" + ESC);
        due("a text of lines", text(x) + x.cursor(), "one two|three|four" + at(2, 3));
        due("the window", screen(x, 8), "one two|three|four|~|~");
        due("a count and a motion", type(x, "2k") + x.cursor(), "00" + 3);
        due("an operator and a motion", type(x, "0dw") + text(x), "000" + "two|three|four");
        due("repetition", type(x, ".") + text(x), "0" + "|three|four");
        due("undo", type(x, "u") + text(x), "0" + "two|three|four");
        String line = ":2,/our/s/[er]*$/&!/" + ENTER;
        due("addresses and patterns", type(x, line) + text(x), "0".repeat(line.length()) + "two|three!|four!");
        due("the window is kept up to date", screen(x, 8), "two|three!|four!|~|~");
        due("the disk", type(x, ":pre" + ENTER) + x.sync() + x.sync() + x.sync() + x.sync(), "00000" + "3210");
        due("something that is lost", type(x, "dd") + text(x), "00" + "two|three!");
        due("recovery", x.crash() + text(x) + x.cursor(), 3 + "two|three!|four!" + 0);
        due("the window then", screen(x, 8), "two|three!|four!|~|~");
    }

    @Says("public final class KeyScreen { public KeyScreen(int width); public int key(int c); public boolean resize(int w); public int sync(); "
            + "public int crash(); public int mode(); public int lines(); public int length(int line); public int letter(int line, int column); "
            + "public int cursor(); public int buffer(); public int held(int i, int column); public int file(); "
            + "public int stored(int line, int column); public int cell(int row, int column); public int top(); public int sent(); }")
    private static void theFace() {
        TreeSet<String> face = new TreeSet<>();
        for (Method method : KeyScreen.class.getDeclaredMethods()) {
            if (Modifier.isPublic(method.getModifiers())) {
                face.add(method.toString().replace("KeyScreen.", ""));
            }
        }
        for (Constructor<?> constructor : KeyScreen.class.getConstructors()) {
            face.add(constructor.toString());
        }
        String inside = sentence.substring(sentence.indexOf('{') + 2, sentence.length() - 3);
        TreeSet<String> promised = new TreeSet<>(Arrays.asList(inside.replaceAll("int \\w+(?=[,)])", "int").replace(", ", ",").split("; ")));
        due("constructors and methods", face, promised);
        due("the class", Modifier.toString(KeyScreen.class.getModifiers()), "public final");
    }

    @Says("in COLUMNS 0, 1, ...")
    private static void eachCodeInItsColumn() {
        KeyScreen x = new KeyScreen(20);
        type(x, "i");
        for (int c = 126; c >= 32; c--) {
            due("key " + c, x.key(c), 0);
            if ((126 - c) % 19 == 18 && c > 32) {
                type(x, ENTER);
            }
        }
        for (int c = 126; c >= 32; c--) {
            int line = (126 - c) / 19;
            int column = (126 - c) % 19;
            due("letter(" + line + ", " + column + ")", x.letter(line, column), c);
        }
    }

    @Says("The CURSOR is at a line and a column.")
    private static void eachPlaceOfTheCursor() {
        KeyScreen x = with("abc|def|ghi");
        for (int line = 0; line < 3; line++) {
            due("line " + line, type(x, (line + 1) + "G") + x.cursor(), "00" + at(line, 0));
            due("the next column", type(x, "l") + x.cursor(), "0" + at(line, 1));
            due("the last column", type(x, "l") + x.cursor(), "0" + at(line, 2));
        }
    }

    private static final String THREE = "ab cd|ef gh|ij kl";

    /** A command from line 1, column 3 of a text of three lines. */
    private static void fromTheMiddle(String keys, String text, int line, int column, int mode) {
        due(keys + " mode", does(THREE, "j3l" + keys, text, at(line, column)).mode(), mode);
    }

    @Says("or nothing, and then one of the following")
    private static void eachCommand() {
        fromTheMiddle("x", "ab cd|ef h|ij kl", 1, 3, 0);
        fromTheMiddle("x.", "ab cd|ef |ij kl", 1, 2, 0);
        fromTheMiddle("xu", THREE, 1, 3, 0);
        fromTheMiddle("ylp", "ab cd|ef ggh|ij kl", 1, 4, 0);
        fromTheMiddle("ylP", "ab cd|ef ggh|ij kl", 1, 3, 0);
        fromTheMiddle("i", THREE, 1, 3, 1);
        fromTheMiddle("a", THREE, 1, 4, 1);
        fromTheMiddle("I", THREE, 1, 0, 1);
        fromTheMiddle("A", THREE, 1, 5, 1);
        fromTheMiddle("o", "ab cd|ef gh||ij kl", 2, 0, 1);
        fromTheMiddle("O", "ab cd||ef gh|ij kl", 1, 0, 1);
        fromTheMiddle(":", THREE, 1, 3, 2);
        fromTheMiddle("/", THREE, 1, 3, 2);
    }

    @Says("L, C are the cursor's line and column.")
    private static void eachMotionFromTheCursor() {
        fromTheMiddle("h", THREE, 1, 2, 0);
        fromTheMiddle("l", THREE, 1, 4, 0);
        fromTheMiddle("j", THREE, 2, 3, 0);
        fromTheMiddle("k", THREE, 0, 3, 0);
        fromTheMiddle("0", THREE, 1, 0, 0);
        fromTheMiddle("$", THREE, 1, 4, 0);
        fromTheMiddle("G", THREE, 2, 0, 0);
        fromTheMiddle("w", THREE, 2, 0, 0);
        fromTheMiddle("b", THREE, 1, 0, 0);
    }

    @Says("MOTIONS (with count but for 0 and $):")
    private static void eachMotionWithACount() {
        fromTheMiddle("2h", THREE, 1, 1, 0);
        fromTheMiddle("02l", THREE, 1, 2, 0);
        fromTheMiddle("k2j", THREE, 2, 3, 0);
        fromTheMiddle("j2k", THREE, 0, 3, 0);
        fromTheMiddle("1G", THREE, 0, 0, 0);
        fromTheMiddle("2w", THREE, 2, 3, 0);
        fromTheMiddle("2b", THREE, 0, 3, 0);
        rings(THREE, "j3l", "2$");
        does(TWENTY, "$10h", TWENTY, 9);
    }

    @Says("OPERATORS d, c, y (with count) and behind them:")
    private static void eachOperatorWithACount() {
        String[] left = {"adef", "adef", "abcdef"};
        String[] leftLines = {"c", "|c", "a|b|c"};
        for (int i = 0; i < 3; i++) {
            char operator = "dcy".charAt(i);
            int mode = operator == 'c' ? 1 : 0;
            KeyScreen x = does("abcdef", "l2" + operator + "l", left[i], 1);
            due(operator + " characters", x.buffer() + held(x) + x.mode(), 0 + "bc" + mode);
            KeyScreen y = does("a|b|c", "2" + operator + operator, leftLines[i], 0);
            due(operator + " lines", y.buffer() + held(y) + y.mode(), 2 + "a|b" + mode);
        }
    }

    @Says("h, l, 0, $, w, b: CHARACTERS of line L:")
    private static void eachMotionWithCharacters() {
        String[][] held = {{"h", " "}, {"l", "g"}, {"0", "ef "}, {"$", "gh"}, {"w", "gh"}, {"b", "ef "}};
        for (String[] motion : held) {
            KeyScreen x = does(THREE, "j3ly" + motion[0], THREE, at(1, 3));
            due("y" + motion[0], x.buffer() + held(x), 0 + motion[1]);
        }
        fromTheMiddle("dh", "ab cd|efgh|ij kl", 1, 2, 0);
        fromTheMiddle("dl", "ab cd|ef h|ij kl", 1, 3, 0);
        fromTheMiddle("d0", "ab cd|gh|ij kl", 1, 0, 0);
        fromTheMiddle("d$", "ab cd|ef |ij kl", 1, 2, 0);
        fromTheMiddle("dw", "ab cd|ef |ij kl", 1, 2, 0);
        fromTheMiddle("db", "ab cd|gh|ij kl", 1, 0, 0);
    }

    @Says("d takes them out as well")
    private static void takenOutAndHeld() {
        KeyScreen x = does("abcdef", "l3dl", "aef", 1);
        due("characters", x.buffer() + held(x), 0 + "bcd");
        KeyScreen y = does("ab|cd|ef", "2dd", "ef", 0);
        due("lines", y.buffer() + held(y), 2 + "ab|cd");
        does("ab|cd|ef", "ddjp", "cd|ef|ab", at(2, 0));
    }

    @Says("and lines (below) where it is said")
    private static void changesByLines() {
        for (String line : new String[] {"d", "s/b/x/", "s/b/x/g", "g/b/d", "g/b/s/b/x/"}) {
            does("ab|cd", ":" + line + ENTER + "u", "ab|cd", 0);
        }
        for (String line : new String[] {"w", "pre", "1", ""}) {
            KeyScreen x = new KeyScreen(10);
            due(line + " keeps nothing", type(x, ":" + line + ENTER + "u"), "0".repeat(line.length() + 2) + "1");
        }
    }

    @Says("(a SET, read from the left")
    private static void setsFromTheLeft() {
        finds("xd-", "[a-c-e]", 2);
        finds("xde", "[a-c-e]", 2);
        finds("x,.", "[--0]", 2);
        finds("xbc-", "[b-a-c]", 2);
        finds("xb-", "[^b-ax]", 1);
    }

    @Says("or another character but *")
    private static void otherCharacters() {
        for (char c = ' '; c <= '~'; c++) {
            if (".[\\*".indexOf(c) < 0) {
                KeyScreen x = new KeyScreen(20);
                due(c + " is found", type(x, "iqz" + c + "y" + ESC + "0/z" + c + "y" + ENTER) + x.cursor(), "0".repeat(12) + 1);
                findsNothing("qz" + (c == 'm' ? 'n' : 'm') + "y", "z" + c + "y");
            }
        }
    }

    @Says("if the characters from p to before q are parted to the atoms in order")
    private static void atomsInOrder() {
        finds("ba ab", "ab", 3);
        findsNothing("ba", "ab");
        findsNothing("cab", "a.b");
        lineDoes("abab", "", "s/a*b*$/z/", "abz", 0);
        lineDoes("ababb", "", "s/[ab]*a/z/", "zbb", 0);
        lineDoes("aab", "", "s/a*ab/z/", "z", 0);
    }

    @Says("A SEARCH line (begun with /) is a pattern: the cursor goes to the first place")
    private static void searches() {
        finds("ab cb", "b", 1);
        finds("ab|cd|ed", "d", at(1, 1));
        finds("ab /c", "/c", 3);
        finds("ab 1,2d", "1,2d", 3);
        finds("ab s/a/b/", "s/a/b/", 3);
        finds("a|b|c", "[c]", at(2, 0));
    }

    @Says("or a pattern between / and /")
    private static void patternsAsAddresses() {
        lineDoes("ab|cd|ef", "", "/e/", "ab|cd|ef", at(2, 0));
        lineDoes("ab|cd|ef", "", "/c/d", "ab|ef", at(1, 0));
        lineDoes("ab|cd|ef", "", "/c/,/e/d", "ab", 0);
        lineDoes("ab|cd|ef", "", "/^c.$/s/d/x/", "ab|cx|ef", at(1, 0));
        lineRings("ab|cd|ef", "", "/e");
        lineRings("ab|cd|ef", "", "e/");
        lineRings("ab|cd|ef", "", "//");
    }

    @Says("s/pattern/REPLACEMENT/ or the same with g behind it:")
    private static void exchangesWithAndWithoutG() {
        lineDoes("abab", "", "s/a/x/", "xbab", 0);
        lineDoes("abab", "", "s/a/x/g", "xbxb", 0);
        lineDoes("abab|aa", "", "%s/a/x/", "xbab|xa", at(1, 0));
        lineDoes("abab|aa", "", "%s/a/x/g", "xbxb|xx", at(1, 0));
        lineRings("abab", "", "s/a/x/G");
    }

    @Says("is exchanged for the replacement")
    private static void longerAndShorterReplacements() {
        lineDoes("abcd", "", "s/bc/xyz/", "axyzd", 0);
        lineDoes("abcd", "", "s/bc/x/", "axd", 0);
        lineDoes("abcd", "", "s/d/xy/", "abcxy", 0);
        lineDoes("abcd", "", "s/^/xy/", "xyabcd", 0);
        lineDoes("abcd|efgh", "", "%s/../x/", "xcd|xgh", at(1, 0));
    }

    @Says("the pattern of s and g at the next /")
    private static void patternsOfExchangesEndAtTheNextSlash() {
        for (String line : new String[] {"s/[/]/x/", "s/\\//x/", "g/[/]/d", "g/\\//d", "g/\\//s/a/x/", "g/a/s/[/]/x/"}) {
            lineRings("a/b", "", line);
        }
        lineDoes("a/b", "", "s/[.-0]b/x/", "ax", 0);
        lineDoes("a/b", "", "g/[.-0]/s/a/x/", "x/b", 0);
    }

    @Says("its characters one after the other")
    private static void charactersOverRows() {
        KeyScreen x = new KeyScreen(5);
        type(x, "iabcdefghijkl" + ENTER + "mn" + ESC);
        due("three rows and one", screen(x, 5), "abcde|fghij|kl|mn|~");
        due("taken out at the beginning", type(x, "1Gx") + screen(x, 5), "000" + "bcdef|ghijk|l|mn|~");
    }

    @Says("`int mode()`: The mode.")
    private static void theModeInEachState() {
        for (String keys : new String[] {"", "3", "d", "i" + ESC, ":" + ESC, "/" + BACK, "x"}) {
            KeyScreen x = new KeyScreen(10);
            type(x, keys);
            due("COMMAND behind " + keys, x.mode(), 0);
        }
        for (String keys : new String[] {"i", "a", "I", "A", "o", "O", "cc", "ix", "i" + ENTER, "i" + BACK}) {
            KeyScreen x = new KeyScreen(10);
            type(x, keys);
            due("INSERT behind " + keys, x.mode(), 1);
        }
        for (String keys : new String[] {":", "/", ":d", "/a", "/a" + BACK}) {
            KeyScreen x = new KeyScreen(10);
            type(x, keys);
            due("PROMPT behind " + keys, x.mode(), 2);
        }
    }

    @Says("`int top()`: TOP.")
    private static void topFollowsTheCursor() {
        KeyScreen x = with(TEN_LINES);
        int[] tops = {0, 0, 0, 0, 0, 1, 2, 3, 4, 5};
        for (int line = 0; line < 10; line++) {
            type(x, line == 0 ? "1G" : "j");
            due("top at line " + line, x.top(), tops[line]);
        }
        for (int line = 8; line >= 0; line--) {
            type(x, "k");
            due("top at line " + line + " again", x.top(), Math.min(5, line));
        }
    }

    // Lines, columns and lengths that are all unlike, so that none can be taken for another

    @Says("or a limit of the text is passed")
    private static void limitsOfTheCursorsLine() {
        does("abc|" + TWENTY + "|xyz", "Glylp", "abc|" + TWENTY + "|xyyz", at(2, 2));
        does("abc|" + TWENTY + "|xyz", "GlylP", "abc|" + TWENTY + "|xyyz", at(2, 1));
        does("ab|" + NINETEEN, "j3lylp", "ab|abcddefghijklmnopqrs", at(1, 4));
        rings("ab|" + TWENTY, "j3lyl", "p");
        rings("ab|" + TWENTY, "j3lyl", "P");
        rings(TWENTY, "5lyl", "p");
        rings(TWENTY + "|ab", "5lyl", "P");
    }

    @Says("[ and what is up to the next ] behind at least one character")
    private static void setsWithinLines() {
        lineDoes("[^/sab", "", "s/[^s]/x/", "x^/sab", 0);
        lineDoes("[^/sab", "", "s/[^b]/x/g", "xxxxxb", 0);
        lineDoes("[/s^ab", "", "s/[ab]/x/g", "[/s^xx", 0);
        lineDoes("[/s^ab", "", "1s/s*[^a]/x/g", "xxxax", 0);
        finds("a^", "a*[^x]", 1);
        finds("ab[", "\\b[^x]", 1);
    }

    @Says("up to the cursor's itself (found there alone nothing moves)")
    private static void backToTheCursor() {
        does("abcdef", "$/e" + ENTER, "abcdef", 4);
        does("abcdef", "$/f" + ENTER, "abcdef", 5);
        does("abcdef|x", "$/d" + ENTER, "abcdef|x", 3);
        does("abcdef|x", "$/f" + ENTER, "abcdef|x", 5);
        rings("abcdef|x", "2l", "/g" + ENTER);
        does("ab|cdefg|h", "j3l/d" + ENTER, "ab|cdefg|h", at(1, 1));
        does("ab|cdefg|h", "j3l/f" + ENTER, "ab|cdefg|h", at(1, 3));
    }

    @Says("behind as many blanks as L (before it is parted) begins with")
    private static void enterBehindWhatWasTyped() {
        does("  ab", "Ixy" + ENTER, "  xy|  ab", at(1, 2));
        does("  ab", "Axy" + ENTER + "z", "  abxy|  z", at(1, 3));
        does("  abcd", "3li12" + ENTER + ENTER + "3", "  a12|  |  3bcd", at(2, 3));
        does("x|   abcd", "jA1" + ENTER + "2" + ENTER, "x|   abcd1|   2|   ", at(3, 3));
    }

    @Says("at column 0 or of another kind than the one before it")
    private static void stopsAtColumnNought() {
        does("a|.b", "w", "a|.b", at(1, 0));
        does("a|b.", "w", "a|b.", at(1, 0));
        does("(a", "$b", "(a", 0);
        does("(a|b", "j2b", "(a|b", 0);
        does("((|))|aa", "w", "((|))|aa", at(1, 0));
        does("((|))|aa", "2w", "((|))|aa", at(2, 0));
        does("aa|bb|cc", "G2b", "aa|bb|cc", 0);
    }

    @Says("of lines: at the line that is behind them then (the last one if there is none), column 0")
    private static void linesOfUnlikeLengths() {
        does("a|bb|ccc|dddd|eeeee", "2dd", "ccc|dddd|eeeee", 0);
        does("a|bb|ccc|dddd|eeeee", "j2dd", "a|dddd|eeeee", at(1, 0));
        does("a|bb|ccc|dddd|eeeee", "jdG", "a", 0);
        does("eeeee|dddd|ccc|bb|a", "3Gdk", "eeeee|bb|a", at(1, 0));
        does("a|bb|ccc|dddd|eeeee", "j3cc", "a||eeeee", at(1, 0));
        does("a|bb|ccc|dddd|eeeee", "j2yyP", "a|bb|ccc|bb|ccc|dddd|eeeee", at(1, 0));
        does("a|bb|ccc|dddd|eeeee", "j2yyp", "a|bb|bb|ccc|ccc|dddd|eeeee", at(2, 0));
        does("a|bb|ccc|dddd|eeeee", "jox" + ESC, "a|bb|x|ccc|dddd|eeeee", at(2, 0));
        does("a|bb|ccc|dddd|eeeee", ":2,4d" + ENTER, "a|eeeee", at(1, 0));
        does("a|bb|ccc|dddd|eeeee", ":g/[bd]/d" + ENTER, "a|ccc|eeeee", at(2, 0));
    }

    @Says("d: as dd, of the range")
    private static void theBufferHasTheRange() {
        String[][] ranges = {{"2,3", "bb|ccc"}, {"3", "ccc"}, {"2,$", "bb|ccc|dddd"}, {".,2", "a|bb"}, {"$", "dddd"}, {"%", "a|bb|ccc|dddd"}};
        for (String[] range : ranges) {
            KeyScreen x = with("a|bb|ccc|dddd");
            type(x, ":" + range[0] + "d" + ENTER);
            due(range[0], x.buffer() + held(x), range[1].split("\\|").length + range[1]);
        }
    }

    @Says("a backslash and a character that one, others but / themselves")
    private static void replacementsInLaterLines() {
        lineDoes("a|bb|ccb", "", "3s/b/\\&/", "a|bb|cc&", at(2, 0));
        lineDoes("a|bb|ccb", "", "%s/b/&\\&\\//g", "a|b&/b&/|ccb&/", at(2, 0));
        lineDoes("1|2|3|4|5|6|7|8|9|abc", "", "$s/c/[\\\\&]/", "1|2|3|4|5|6|7|8|9|ab[\\c]", at(9, 0));
        lineDoes("a|bb|ccb", "", "g/b/s/b$/\\x&y/", "a|bxby|ccxby", at(2, 0));
    }

    @Says("for one with * any number")
    private static void eightStars() {
        lineDoes("xaabbccddeeffggh", "", "s/x*a*b*c*d*e*f*g*/z/", "zh", 0);
        lineDoes("xg", "", "s/x*a*b*c*d*e*f*g*/z/", "z", 0);
        lineDoes("abcdefghhi", "", "s/abcdefgh*/z/", "zi", 0);
        lineDoes("aabcdefghi", "", "s/a*bcdefgh/z/", "zi", 0);
        finds("xabcdefghh", "abcdefgh*$", 1);
        finds("xabcdefg", "abcdefgh*$", 1);
    }

    @Says("y puts them into the BUFFER")
    private static void heldOneAfterAnother() {
        KeyScreen x = with("ab|c|d|e|f|g");
        String[][] steps = {{"3yy", "3ab|c|d"}, {"yl", "0a"}, {"6Gyl", "0g"}, {"5Gyy", "1f"}, {"1Gy$", "0ab"}, {"2yy", "2ab|c"}, {"yG", "6ab|c|d|e|f|g"},
            {"2Gyl", "0c"}, {"yj", "2c|d"}, {"5Gyk", "2e|f"}, {"x", "0f"}};
        for (String[] step : steps) {
            due(step[0], type(x, step[0]) + x.buffer() + held(x), "0".repeat(step[0].length()) + step[1]);
        }
        KeyScreen y = with("abc");
        due("twice in one line", type(y, "yllyl") + held(y), "00000" + "b");
        does("abc", "xxP", "bc", 0);
        does("abc|d", "yyjylP", "abc|dd", at(1, 0));
    }

    @Says("A command is a COUNT 1 .. 99 in decimal without leading zeros")
    private static void countsFromTwentyOn() {
        KeyScreen x = with("a b c d e f g h i j");
        type(x, "yypppppppp" + "p1G");
        due("ten lines of ten words", x.lines(), 10);
        due("25 words", type(x, "25w") + x.cursor(), "000" + at(2, 10));
        due("74 words more", type(x, "74w") + x.cursor(), "000" + at(9, 18));
        due("99 words back", type(x, "99b") + x.cursor(), "000" + 0);
        due("99 words", type(x, "99w") + x.cursor(), "000" + at(9, 18));
        due("one more", type(x, "w") + x.cursor(), "1" + at(9, 18));
        rings(TEN_LINES, "", "20G");
        rings(TEN_LINES, "", "90G");
        rings(TEN_LINES, "", "21dd");
    }

    @Says("if it begins with ^ and has more, all characters but those of the rest")
    private static void theSignOfASetAlone() {
        lineDoes("a^b", "", "s/[^]/x/", "axb", 0);
        lineDoes("a|b^", "", "/b[^]/s/.[^]/x/", "a|x", at(1, 0));
        lineDoes("a^b", "", "g/[^]b/s/a[^]/x/", "xb", 0);
        finds("aab^", "ab[^]", 1);
    }

    @Says("a character with - and one more behind it means all from the one to the other")
    private static void spansAnywhere() {
        finds("ba", "[xa-]", 1);
        finds("b-", "[xa-]", 1);
        findsNothing("b]", "[xa-]");
        finds("vxyzwb", "xyzw[a-c]", 1);
        findsNothing("vxyzwd", "xyzw[a-c]");
        finds("v1234567b", "1234567[x-za-c]", 1);
        lineDoes("abcdef", "", "s/a[a-c]c[c-e]*/x/", "xf", 0);
        lineDoes("abcdef", "", "s/[x-zc-e][^a-d]/x/", "abcxf", 0);
    }

    @Says("lines taken out change the numbers, not the lines noted")
    private static void linesNotedFarFromEachOther() {
        lineDoes("a|bb|c|dd|e|af|g|hh", "3G", "g/a/d", "bb|c|dd|e|g|hh", at(4, 0));
        lineDoes("a|bb|c|dd|e|ff|g|h|i|ak", "3G", "g/a/d", "bb|c|dd|e|ff|g|h|i", at(7, 0));
        lineDoes("a|bb|c|dd|e|ff|ag|h|i|ak", "3G", "g/a/s/a/xx/", "xx|bb|c|dd|e|ff|xxg|h|i|xxk", at(9, 0));
    }

    @Says("or its lines, as new ones, below or above L, the cursor at column 0 of the first of them")
    private static void moreLinesThanTheTextHas() {
        does("a|bb|ccc", "3ddp", "|a|bb|ccc", at(1, 0));
        does("a|bb|ccc", "3ddP", "a|bb|ccc|", 0);
        does("a|bb|ccc", ":2,3d" + ENTER + "p", "a|bb|ccc", at(1, 0));
    }

    @Says("the first one that rings in COMMAND ends it, and what was done by then stays)")
    private static void aPeriodThatEndsBehindItsOperator() {
        for (String change : new String[] {"cwiab" + ESC, "c$xx" + ESC, "2clio" + ESC, "clap" + ESC}) {
            KeyScreen x = with("abcd|");
            due(change, type(x, change + "j"), "0".repeat(change.length() + 1));
            String was = state(x);
            due(change + " where there is nothing", type(x, "."), "1");
            due(change + " where there is nothing", state(x), was);
        }
        KeyScreen y = with("a|b|c");
        due("cj once", type(y, "cjia" + ESC) + text(y), "00000" + "ia|c");
        due("cj again", type(y, "j.") + text(y) + y.mode() + y.cursor(), "01" + "ia|c" + 0 + at(1, 0));
    }

    @Says("d takes them out as well")
    private static void takenOutOfAFullTenthLine() {
        String nine = NINE_LINES + "|";
        does(nine + TWENTY, "Gx", nine + "bcdefghijklmnopqrst", at(9, 0));
        does(nine + TWENTY, "G$x", nine + NINETEEN, at(9, 18));
        does(nine + TWENTY, "G5l3x", nine + "abcdeijklmnopqrst", at(9, 5));
        does(nine + TWENTY, "Gd$", nine, at(9, 0));
        does(nine + TWENTY, "Gdd", NINE_LINES, at(8, 0));
    }

    @Says("a line for which not enough rows are left shows @ at the beginning of each of those")
    private static void linesThatNeedUnlikeRows() {
        KeyScreen x = new KeyScreen(5);
        type(x, "iabcdefg" + ENTER + "b" + ENTER + "c" + ENTER + "ddddddd" + ESC);
        due("from the second line on", x.top() + screen(x, 5), 1 + "b|c|ddddd|dd|~");
        due("one row is left", type(x, "1G") + x.top() + screen(x, 5), "00" + 0 + "abcde|fg|b|c|@");
        KeyScreen y = new KeyScreen(5);
        type(y, "ia" + ENTER + "bbbbbbb" + ENTER + "ccccccccccccc" + ESC + "1G");
        due("two rows are left", y.top() + screen(y, 5), 0 + "a|bbbbb|bb|@|@");
        type(y, "G9x1G");
        due("and they are enough", y.top() + screen(y, 5), 0 + "a|bbbbb|bb|cccc|~");
    }

    @Says("and while the lines from TOP to the cursor's need more than 5 rows, TOP is one more")
    private static void topOverLinesThatNeedUnlikeRows() {
        KeyScreen x = new KeyScreen(5);
        type(x, "iaaaaaaaaaaaa" + ENTER + "b" + ENTER + "cccccccccc" + ENTER + "d" + ENTER + "eeeeeee" + ENTER + "f" + ESC + "1G");
        due("the first line", x.top() + screen(x, 5), 0 + "aaaaa|aaaaa|aa|b|@");
        int[] down = {0, 1, 1, 2, 3};
        for (int line = 1; line < 6; line++) {
            due("j to line " + line, type(x, "j") + x.top(), "0" + down[line - 1]);
        }
        int[] up = {3, 3, 2, 1, 0};
        for (int line = 4; line >= 0; line--) {
            due("k to line " + line, type(x, "k") + x.top(), "0" + up[4 - line]);
        }
        due("G", type(x, "G") + x.top() + screen(x, 5), "0" + 3 + "d|eeeee|ee|f|~");
    }

    @Says("A SEARCH line (begun with /) is a pattern")
    private static void onePatternAfterAnother() {
        KeyScreen x = with("xabcdefghh|b");
        String[] patterns = {"abcdefgh*$", "b", "^b", "g", "h$", "h", "[^h]", "h"};
        int[] cursors = {1, 2, at(1, 0), 7, 9, 8, at(1, 0), 8};
        for (int i = 0; i < patterns.length; i++) {
            String keys = "/" + patterns[i] + ENTER;
            due(keys, type(x, keys) + x.cursor(), "0".repeat(keys.length()) + cursors[i]);
        }
        due("what is no pattern", type(x, "/b[" + ENTER) + x.cursor(), "0001" + 8);
        due("the next one", type(x, "/b" + ENTER) + x.cursor(), "000" + at(1, 0));
    }

    private static void run(Method test) {
        int before = checks;
        sentence = test.getAnnotation(Says.class).value();
        try {
            test.invoke(null);
        } catch (ReflectiveOperationException e) {
            due(test.getName() + " ended with " + e.getCause(), false, true);
        }
        if (checks == before) {
            due(test.getName() + " looks at something", false, true);
        }
    }

    /** The document without its headings, the signs around its blocks and what it does not promise. */
    private static String promisedWords(String document) {
        int end = document.indexOf("## Not promised");
        String promised = end < 0 ? document : document.substring(0, end);
        return promised.replaceAll("(?m)^(#|```).*$", "").replaceAll("\\s+", " ");
    }

    private static void mark(BitSet borne, String document, String words) {
        for (int at = document.indexOf(words); at >= 0; at = document.indexOf(words, at + 1)) {
            borne.set(at, at + words.length());
        }
    }

    private static String unmarked(BitSet borne, String document) {
        StringBuilder words = new StringBuilder();
        for (int i = 0; i < document.length(); i++) {
            if (!borne.get(i) && Character.isLetterOrDigit(document.charAt(i))) {
                words.append(i > 0 && borne.get(i - 1) ? " " : "").append(document.charAt(i));
            }
        }
        return words.toString();
    }

    public static void main(String[] args) throws Exception {
        Method[] tests = SentenceTests.class.getDeclaredMethods();
        Arrays.sort(tests, Comparator.comparing(Method::getName));
        String document = args.length == 0 ? null : promisedWords(Files.readString(Path.of(args[0])));
        BitSet borne = new BitSet();
        int ran = 0;
        for (Method test : tests) {
            Says says = test.getAnnotation(Says.class);
            if (says != null) {
                run(test);
                ran++;
                if (document != null) {
                    due("stands in the document", document.contains(says.value()), true);
                    mark(borne, document, says.value());
                }
            }
        }
        if (document != null) {
            sentence = "all sentences";
            due("words that no test bears", unmarked(borne, document), "");
        }
        System.out.println(ran + " tests, " + checks + " answers, " + wrong + " of them not as due");
        if (wrong != 0) {
            System.exit(1);
        }
    }
}
