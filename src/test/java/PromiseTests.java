/** The promises of the document, one method or more for each, with the edges that it names and with wrong inputs. */
public final class PromiseTests {
    private static final String ESC = "\33";
    private static final String ENTER = "\n";
    private static final String BACK = "\b";
    private static int wrong = 0;

    private static void due(String what, Object got, Object want) {
        if (!want.equals(got)) {
            wrong++;
            System.out.println(what + ": answered <" + got + ">, due is <" + want + ">");
        }
    }

    /** Works keys and answers what each of them answered. */
    private static String type(KeyScreen x, String keys) {
        StringBuilder answers = new StringBuilder();
        for (char c : keys.toCharArray()) {
            answers.append(x.key(c));
        }
        return answers.toString();
    }

    /** What the last of some keys answered. */
    private static int last(KeyScreen x, String keys) {
        String answers = type(x, keys);
        return answers.charAt(answers.length() - 1) - '0';
    }

    private static String text(KeyScreen x) {
        StringBuilder all = new StringBuilder();
        for (int i = 0; i < x.lines(); i++) {
            all.append(i == 0 ? "" : "|");
            for (int j = 0; j < x.length(i); j++) {
                all.append((char) x.letter(i, j));
            }
        }
        return all.toString();
    }

    private static String held(KeyScreen x) {
        StringBuilder all = new StringBuilder();
        for (int i = 0; i < Math.max(1, x.buffer()); i++) {
            all.append(i == 0 ? "" : "|");
            for (int j = 0; x.held(i, j) != 0; j++) {
                all.append((char) x.held(i, j));
            }
        }
        return all.toString();
    }

    private static String stored(KeyScreen x) {
        StringBuilder all = new StringBuilder();
        for (int i = 0; i < x.file(); i++) {
            all.append(i == 0 ? "" : "|");
            for (int j = 0; x.stored(i, j) != 0; j++) {
                all.append((char) x.stored(i, j));
            }
        }
        return all.toString();
    }

    private static String screen(KeyScreen x) {
        StringBuilder all = new StringBuilder();
        for (int row = 0; row < 5; row++) {
            all.append(row == 0 ? "" : "|");
            for (int column = 0; x.cell(row, column) != 0; column++) {
                all.append((char) x.cell(row, column));
            }
        }
        return all.toString();
    }

    private static int at(int line, int column) {
        return line * 32 + column;
    }

    /** An object with a text (lines parted by |, none of which begins with a blank), the cursor at 0, 0. */
    private static KeyScreen with(String lines) {
        KeyScreen x = new KeyScreen(20);
        type(x, "i" + lines.replace("|", ENTER) + ESC + "1G");
        return x;
    }

    /** Keys in a text; what comes of it. */
    private static void worked(String lines, String keys, String text, int cursor) {
        KeyScreen x = with(lines);
        int answer = last(x, keys);
        due(lines + " " + keys + " answer", answer, 0);
        due(lines + " " + keys + " text", text(x), text);
        due(lines + " " + keys + " cursor", x.cursor(), cursor);
    }

    /** Keys, the last of which rings; the keys before it bring the cursor where it then stays. */
    private static void rang(String lines, String before, String keys) {
        KeyScreen x = with(lines);
        type(x, before);
        String was = text(x);
        int cursor = x.cursor();
        int buffer = x.buffer();
        due(lines + " " + before + keys + " rings", last(x, keys), 1);
        due(lines + " " + before + keys + " text", text(x), was);
        due(lines + " " + before + keys + " cursor", x.cursor(), cursor);
        due(lines + " " + before + keys + " buffer", x.buffer(), buffer);
        due(lines + " " + before + keys + " mode", x.mode(), 0);
    }

    private static void newObject() {
        for (int width : new int[] {5, 6, 19, 20}) {
            due("width " + width, new KeyScreen(width).cell(0, width - 1), 32);
            due("width " + width, new KeyScreen(width).cell(0, width), 0);
        }
        for (int width : new int[] {4, 21, 0, -1, Integer.MIN_VALUE, Integer.MAX_VALUE}) {
            due("width " + width, new KeyScreen(width).cell(4, 9), 32);
            due("width " + width, new KeyScreen(width).cell(4, 10), 0);
        }
        KeyScreen x = new KeyScreen(10);
        due("new text", text(x), "");
        due("new lines", x.lines(), 1);
        due("new cursor", x.cursor(), 0);
        due("new mode", x.mode(), 0);
        due("new buffer", x.buffer(), -1);
        due("new file", x.file(), -1);
        due("new top", x.top(), 0);
        due("new sent", x.sent(), 0);
        due("new screen", screen(x), ("          |").repeat(4) + "          ");
    }

    private static void keysThatAreNone() {
        KeyScreen x = with("ab");
        int sent = x.sent();
        type(x, "2");
        for (int c : new int[] {0, 7, 9, 11, 26, 28, 31, 127, 128, 255, -1, Integer.MIN_VALUE, Integer.MAX_VALUE}) {
            due("key(" + c + ")", x.key(c), -1);
        }
        due("the count stays", type(x, "x"), "0");
        due("the count stays", text(x), "");
        due("a key that is none sends nothing", x.sent() > sent, true);
        KeyScreen fresh = new KeyScreen(10);
        fresh.key(9);
        due("a key that is none sends nothing", fresh.sent(), 0);
    }

    private static void countsAndUnfinishedCommands() {
        KeyScreen x = with("abcdefghij");
        due("a third digit", type(x, "121"), "001");
        due("dropped behind it", type(x, "l") + x.cursor(), "01");
        due("0 as a third digit", type(x, "100"), "001");
        due("behind a ring", type(x, "x") + text(x), "0acdefghij");
        due("digit behind an operator", type(x, "d2"), "01");
        due("dropped", type(x, "w"), "1");
        due("0 behind an operator", type(x, "d0") + text(x), "00cdefghij");
        due("3d0", type(x, "l3d0"), "0001");
        due("3d$", type(x, "3d$"), "001");
        due("3$", type(x, "3$"), "01");
        due("10l", type(x, "010l") + x.cursor(), "0000" + 7);
        due("an operator behind another", type(x, "dcx"), "010");
        due("ESC in a command", type(x, "3d" + ESC + ESC), "0000");
        due("ENTER and BACK", type(x, ENTER + BACK), "11");
        due("ENTER drops", type(x, "3" + ENTER + "h"), "010");
        for (String c : "p P i a I A o O u . : / q Z ! 0 $".split(" ")) {
            if (!c.equals("0")) {
                rang("ab", "yyx", "2" + c);
            }
        }
        rang("ab", "", "q");
        rang("ab", "", "dp");
        rang("ab", "", "d:");
        rang("ab", "", "dx");
        rang("ab", "x", "d.");
    }

    private static void plainMotions() {
        worked("abcdef", "$3h", "abcdef", 2);
        worked("abcdef", "$99h", "abcdef", 0);
        rang("abc", "", "h");
        worked("abcdef", "2l", "abcdef", 2);
        worked("abcdef", "99l", "abcdef", 5);
        rang("abc", "$", "l");
        rang("", "", "l");
        worked("a|b|abc", "2j", "a|b|abc", at(2, 0));
        worked("abc|a|abc", "$j", "abc|a|abc", at(1, 0));
        worked("abc|a|abc", "$jj", "abc|a|abc", at(2, 0));
        worked("abc|abcd|", "G2k$", "abc|abcd|", 2);
        rang("a|b", "", "2j");
        rang("a|b", "j", "2k");
        worked("abc|def", "$jG", "abc|def", at(1, 0));
        worked("abc|def", "$1G", "abc|def", 0);
        worked("abc", "$0", "abc", 0);
        worked("", "$", "", 0);
        rang("a|b", "", "3G");
    }

    private static void words() {
        String lines = "ab_1 ..x| |  y|";
        KeyScreen x = new KeyScreen(20);
        type(x, "iab_1 ..x" + ENTER + ENTER + "  y" + ENTER + BACK + ESC + "1G");
        due(lines, text(x), "ab_1 ..x||  y|  ");
        due("w", type(x, "w") + x.cursor(), "0" + 5);
        due("w to another kind", type(x, "w") + x.cursor(), "0" + 7);
        due("w to an empty line", type(x, "w") + x.cursor(), "0" + at(1, 0));
        due("w behind blanks", type(x, "w") + x.cursor(), "0" + at(2, 2));
        due("no more", type(x, "w") + x.cursor(), "1" + at(2, 2));
        due("3b", type(x, "3b") + x.cursor(), "00" + 5);
        due("2b", type(x, "2b") + x.cursor(), "01" + 5);
        due("4w", type(x, "4w") + x.cursor(), "01" + 5);
        due("3w", type(x, "3w") + x.cursor(), "00" + at(2, 2));
        worked("abc def", "wlb", "abc def", 4);
        rang("abc", "", "b");
        worked("aAzZ09_ .", "w", "aAzZ09_ .", 8);
        worked("~A Z 0 9", "w", "~A Z 0 9", 1);
        for (String edge : "@A [Z `a {z /0 :9".split(" ")) {
            worked(edge, "w", edge, 1);
        }
    }

    private static void operatorsOnLines() {
        worked("a|b|c", "dd", "b|c", 0);
        worked("a|b|c", "2dd", "c", 0);
        worked("a|b|c", "3dd", "", 0);
        worked("a|b|c", "Gdd", "a|b", at(1, 0));
        worked("abc|def|ghi", "j$dd", "abc|ghi", at(1, 0));
        rang("a|b|c", "j", "3dd");
        worked("a|b|c", "dj", "c", 0);
        worked("a|b|c", "Gdk", "a", 0);
        rang("a|b|c", "G", "dj");
        rang("a|b|c", "", "dk");
        rang("a|b|c", "", "3dj");
        worked("a|b|c", "jdG", "a", 0);
        worked("a|b|c", "G1dG", "", 0);
        worked("a|b|c", "j3dG", "a", 0);
        rang("a|b|c", "", "4dG");
        worked("a|b|c", "G2ykx", "a|b|", at(2, 0));
        worked("abc|d|e", "2ccx" + ESC, "x|e", 0);
        worked("a|b|c", "Gckx" + ESC, "a|x", at(1, 0));
        KeyScreen x = with("a|b|c");
        due("yj", type(x, "jyj") + x.buffer() + held(x) + x.cursor(), "000" + 2 + "b|c" + 32);
        due("cj", type(x, "cj") + x.mode() + text(x) + held(x), "00" + 1 + "a|" + "b|c");
        KeyScreen y = with("");
        due("dd of the last line", type(y, "dd") + y.lines() + y.buffer() + y.length(0), "00" + 1 + 1 + 0);
    }

    private static void operatorsOnLetters() {
        worked("abcdef", "3l2dh", "adef", 1);
        worked("abcdef", "3l9dh", "def", 0);
        rang("abc", "", "dh");
        worked("abcdef", "3l2dl", "abcf", 3);
        worked("abcdef", "3l9dl", "abc", 2);
        rang("", "", "dl");
        rang("", "", "x");
        rang("", "", "dw");
        rang("", "", "c$");
        worked("abcdef", "3ld0", "def", 0);
        rang("abc", "", "d0");
        worked("abcdef", "3ld$", "abc", 2);
        worked("a", "d$", "", 0);
        worked("ab cd ef", "2dw", "ef", 0);
        worked("ab cd|ef", "wdw", "ab |ef", 2);
        worked("ab cd", "wdw", "ab ", 2);
        worked("ab cd|ef", "3dw", "|ef", 0);
        worked("ab cd", "9dw", "", 0);
        worked("ab cd ef", "2wdb", "ab ef", 3);
        worked("ab cd", "$db", "ab d", 3);
        rang("ab|cd", "j", "db");
        rang("ab", "", "db");
        rang("ab|cd", "jl", "2db");
        worked("abcdef", "2l3x", "abf", 2);
        worked("abcdef", "2l9x", "ab", 1);
        worked("ab cd", "cwx" + ESC, "xcd", 0);
        worked("abc", "lc$" + BACK + "x" + ESC, "ax", 1);
        worked("abc", "c$" + ESC, "", 0);
        worked("abc", "$cbx" + ESC, "xc", 0);
        KeyScreen x = with("ab cd");
        due("yw", type(x, "yw") + x.buffer() + held(x) + x.cursor(), "00" + 0 + "ab " + 0);
        due("y$", type(x, "wy$") + held(x) + x.cursor() + text(x), "000" + "cd" + 3 + "ab cd");
        due("x holds", type(x, "x") + held(x), "0c");
        due("a ring leaves the buffer", type(x, "0dh") + held(x), "001c");
    }

    private static void putting() {
        rang("ab", "", "p");
        rang("ab", "", "P");
        worked("abc", "xp", "bac", 1);
        worked("abc", "2xp", "cab", 2);
        worked("abc", "2xP", "abc", 1);
        worked("ab", "2xp", "ab", 1);
        worked("ab", "2xP", "ab", 1);
        worked("a|b", "yyp", "a|a|b", at(1, 0));
        worked("a|b", "yyP", "a|a|b", 0);
        worked("a|bcd", "yjj$p", "a|bcd|a|bcd", at(2, 0));
        worked("a|bcd", "yjj$P", "a|a|bcd|bcd", at(1, 0));
        worked("1234567890", "y$p", "11234567890234567890", 10);
        rang("12345678901", "y$", "p");
        rang("12345678901", "y$", "P");
        worked("1|2|3|4|5", "yGp", "1|1|2|3|4|5|2|3|4|5", at(1, 0));
        rang("1|2|3|4|5|6", "yG", "p");
        rang("1|2|3|4|5|6", "yG", "P");
    }

    private static void beginnings() {
        worked("abc", "li-" + ESC, "a-bc", 1);
        worked("abc", "la-" + ESC, "ab-c", 2);
        worked("", "a-" + ESC, "-", 0);
        worked("abc", "$A-" + ESC, "abc-", 3);
        worked("abc", "$I-" + ESC, "-abc", 0);
        worked("abc", "i  " + ESC + "$I-" + ESC, "  -abc", 2);
        worked("", "i  " + ESC + "I-" + ESC, "  -", 2);
        worked("abc|d", "lox" + ESC, "abc|x|d", at(1, 0));
        worked("abc|d", "jOx" + ESC, "abc|x|d", at(1, 0));
        worked("abc", "i  " + ESC + "ox" + ESC, "  abc|  x", at(1, 2));
        worked("abc", "i  " + ESC + "Ox" + ESC, "  x|  abc", 2);
        rang("1|2|3|4|5|6|7|8|9|0", "", "o");
        rang("1|2|3|4|5|6|7|8|9|0", "", "O");
        KeyScreen x = with("abc");
        due("BACK behind the blanks of o", type(x, "i  " + ESC + "o" + BACK), "0000" + "0" + "1");
        worked("", "i   " + BACK + ESC + "ox" + ESC, "  |  x", at(1, 2));
    }

    private static void inserting() {
        KeyScreen x = new KeyScreen(20);
        due("20 characters", last(x, "i12345678901234567890"), 0);
        due("one more", type(x, "1") + x.cursor() + x.mode(), "1" + 20 + 1);
        due("ESC", type(x, ESC) + x.cursor() + x.mode(), "0" + 19 + 0);
        due("ESC at 0", type(x, "0i" + ESC) + x.cursor(), "000" + 0);
        worked("abcd", "2li" + ENTER + ESC, "ab|cd", at(1, 0));
        worked("ab cd", "2li" + ENTER + "x" + ESC, "ab|x cd", at(1, 0));
        worked("ab", "i   " + ESC + "0li" + ENTER + "x" + ESC, " | x  ab", at(1, 1));
        worked("ab", "i  " + ESC + "A" + ENTER + "x" + ENTER + ENTER + ESC, "  ab|  x|  |  ", at(3, 1));
        KeyScreen y = new KeyScreen(20);
        due("BACK", type(y, "iab" + BACK + BACK + BACK) + text(y), "000001");
        due("BACK behind ENTER", type(y, "  a" + ENTER + "b" + BACK + BACK) + text(y), "0000001" + "  a|  ");
        due("BACK at the place where INSERT began", type(y, ESC + "a" + BACK), "001");
        KeyScreen z = with("1|2|3|4|5|6|7|8|9");
        due("the tenth line", type(z, "i" + ENTER + ENTER) + z.lines() + z.cursor(), "001" + 10 + 32);
        worked("abc", "la" + BACK + "x" + BACK + BACK + ESC, "abc", 1);
    }

    private static void undo() {
        KeyScreen fresh = new KeyScreen(9);
        due("no OTHER", type(fresh, "u"), "1");
        worked("abc", "lxu", "abc", 1);
        worked("abc", "lx0uu", "ac", 0);
        worked("abc|d", "lddu", "abc|d", 1);
        worked("abc", "$i" + ESC + "u", "abc", 2);
        worked("abc", "lixy" + BACK + ENTER + "z" + ESC + "u", "abc", 1);
        worked("abc", "x$2xu", "bc", 1);
        worked("abc", "xpu", "bc", 0);
        worked("abc|d", "xyyPu", "bc|d", 0);
        worked("abc", "xox" + ESC + "u", "bc", 0);
        worked("abc", "xOx" + ESC + "u", "bc", 0);
        worked("abc", "xccx" + ESC + "u", "bc", 0);
        worked("abc", "lx0yydhu", "abc", 1);
        worked("abc", "lxyydhu", "ac", 1);
        worked("abc", "lx:s/q/r/" + ENTER + "u", "abc", 1);
        worked("abc|b", "l:%s/b/r/" + ENTER + "u", "abc|b", 1);
        worked("abc|b", "lx:w" + ENTER + ":pre" + ENTER + ":2" + ENTER + "u", "abc|b", 1);
        worked("abc|b|b", "l:g/b/d" + ENTER + "u", "abc|b|b", 1);
        worked("abc|b|b", "l:g/b/s/x/y/" + ENTER + "xu", "abc|b|b", 1);
        worked("abc|b", "lx:g/b/s/x/y/" + ENTER + "u", "ac|b", 1);
    }

    private static void period() {
        KeyScreen fresh = new KeyScreen(9);
        due("no change", type(fresh, "."), "1");
        worked("abcdef", "2x.", "ef", 0);
        worked("a b c d", "dw.", "c d", 0);
        worked("abc", "ixy" + ESC + ".", "xxyyabc", 2);
        worked("abc", "ixyzuvw" + ESC + ".", "xyzuvxyzuvwwabc", 10);
        worked("a b c d e", "2cwxyz" + ESC + "w.", "xyzc xyz", 7);
        rang("abc", "ixyzuvwt" + ESC, ".");
        rang("abc", "x", "2.");
        worked("abc", "x:s/b/d/" + ENTER + ".", "c", 0);
        worked("abc", "xyl.", "c", 0);
        worked("abcd", "x.u.", "cd", 0);
        worked("a|b|c|d", "dd.u", "b|c|d", 0);
        KeyScreen x = with("12345678901234567");
        due("a change", type(x, "Aab" + ESC), "0000");
        due("rings in INSERT", type(x, ".") + text(x) + x.mode(), "1" + "12345678901234567aba" + 0);
        due("the OTHER is as before it", type(x, "u") + text(x), "0" + "12345678901234567ab");
        KeyScreen y = with("123456789012345678");
        due("keys that ring", type(y, "Aabcdefghijkl" + ESC), "000" + "1".repeat(10) + "0");
        due("are not of the change", last(y, ":s/1234//" + ENTER + ".") + text(y), "0" + "56789012345678abab");
        KeyScreen z = with("12345678901234567");
        type(z, "Aab" + ESC + ".");
        due("a period's rings leave the change", last(z, ":s/1234//" + ENTER + ".") + text(z),
                "0" + "5678901234567abaab");
        KeyScreen v = with("a|b|c|d|e|f|g|h|i");
        due("the tenth line", type(v, "oxj" + ESC), "0000");
        due("the first that rings ends it", type(v, ".") + v.lines() + v.mode() + v.cursor(), "1" + 10 + 0 + at(1, 1));
        due("that change stays the latest", type(v, "Gdd.") + v.lines(), "0000" + 8);
        worked("abc", "3lix" + BACK + "y" + ESC + "0.", "yabyc", 0);
        KeyScreen w = with("ab cd");
        due("an operator that rings", type(w, "wdb0.") + text(w), "00001" + "cd");
    }

    private static void prompting() {
        KeyScreen x = with("abc|def");
        due("prompt", type(x, "j:") + x.mode() + x.cursor(), "00" + 2 + 32);
        due("30 characters", type(x, "123456789012345678901234567890"), "0".repeat(30));
        due("one more", type(x, "1") + x.mode(), "1" + 2);
        due("BACK", type(x, BACK.repeat(29)) + x.mode(), "0".repeat(29) + 2);
        due("what is left", type(x, ENTER) + x.cursor() + x.mode(), "0" + 0 + 0);
        due("ESC", type(x, ":2" + ESC) + x.mode() + x.cursor(), "000" + 0 + 0);
        due("no character is left of it", type(x, ":" + ENTER) + x.cursor(), "00" + 0);
        due("BACK when there is none", type(x, "/" + BACK) + x.mode(), "00" + 0);
        due("BACK to none", type(x, ":a" + BACK) + x.mode() + type(x, BACK) + x.mode(), "0002" + "00");
        due("a line that can't be done", type(x, ":9" + ENTER) + x.mode() + x.cursor(), "001" + 0 + 0);
        due("an empty search line", type(x, "/" + ENTER), "01");
    }

    /** Where a search from the beginning of a text leads; -1 when it rings. */
    private static void sought(String lines, String pattern, int cursor) {
        KeyScreen x = with(lines);
        int answer = last(x, "/" + pattern + ENTER);
        due(lines + " /" + pattern, answer == 1 ? -1 : x.cursor(), cursor);
        due(lines + " /" + pattern + " text", text(x), lines);
    }

    private static void searching() {
        sought("abc abc", "a", 4);
        sought("abc|xxa", "a", at(1, 2));
        sought("abc", "a", 0);
        sought("abc", "x", -1);
        sought("abc|def", "$", 2);
        sought("abc|def", "^", at(1, 0));
        sought("abc||d", "^$", at(1, 0));
        sought("", "^$", 0);
        sought("aab", "b*", 1);
        sought("xab", "a.", 1);
        sought("xa.b", "\\.", 2);
        sought("x*b", "\\*", 1);
        sought("xa]b", "]", 2);
        sought("xa^b", "a^", 1);
        sought("xa^b", "^a", -1);
        sought("xa$b", "a$b", 1);
        sought("xa$b", "b$", 3);
        sought("xb$", "\\$", 2);
        sought("xb$", "$$", 2);
        sought("x^^", "a^*", -1);
        sought("xa^^", "a^*$", 1);
        sought("abc-]", "[]]", 4);
        sought("abc-]", "[a-]", 3);
        sought("abc-]", "[-x]", 3);
        sought("abc-]", "[^a-c]", 3);
        sought("abc-]", "[b-]]", 3);
        sought("abc-]", "[+-.]", 3);
        sought("abc", "[c-b]", -1);
        sought("abc", "a[c-b]*b", 0);
        sought("x^]", "[^]]", 1);
        sought("xa\\b", "[.\\]", 2);
        sought("x..", "[.]", 1);
        sought("x/y", "/", 1);
        sought("xabcdefgh", "abcdefgh", 1);
        sought("xabcdefgh", "abcdefgh$", 1);
        sought("xabcdefghi", "abcdefghi", -1);
        sought("x12345678", "[0-9]*.\\8$", 1);
        sought("a~b", ".b", 1);
        sought("a~b", "[^a-z]", 1);
        sought("a~b", "~", 1);
        sought("a b", "[ -!]", 1);
        sought("abc^", "[^]", 3);
        sought("axyz", "[" + "z".repeat(28) + "]", 3);
        sought("aaa", "[a-z]*b", -1);
        for (String none : new String[] {"[", "[]", "[^", "[ab", "*", "*a", "^*", "a**", "\\", "a\\", "[]a", "..[x"}) {
            sought("abc[]^*\\", none, -1);
        }
        worked("abc|def", "$/z*$" + ENTER, "abc|def", 2);
        worked("abc|def", "j$/z*$" + ENTER + "/^" + ENTER, "abc|def", 0);
        worked("a|b|a", "G/a" + ENTER, "a|b|a", 0);
        worked("abc|ba", "/ba*" + BACK + ENTER, "abc|ba", at(1, 0));
        worked("xa|xab", "/xab*" + ENTER + "/xab" + ENTER, "xa|xab", at(1, 0));
        for (String cut : new String[] {"/[ab]", "/\\b", ":/b/", ":s/a/b/", ":s/a/\\/", ":g/b/d"}) {
            KeyScreen x = with("a|b");
            due(cut + " without its last character", last(x, cut + BACK + ENTER) + text(x), "1" + "a|b");
        }
        KeyScreen x = with("ab");
        due("search is no change", type(x, "/b" + ENTER + "u").substring(3) + x.cursor(), "00");
    }

    /** A command line from the cursor that some keys bring about, and what comes of it. */
    private static void line(String lines, String before, String line, String text, int cursor) {
        worked(lines, before + ":" + line + ENTER, text, cursor);
    }

    private static void lineRings(String lines, String before, String line) {
        KeyScreen x = with(lines);
        type(x, before + "yl");
        int cursor = x.cursor();
        String was = text(x);
        due(lines + " :" + line + " rings", last(x, ":" + line + ENTER), 1);
        due(lines + " :" + line + " text", text(x), was);
        due(lines + " :" + line + " cursor", x.cursor(), cursor);
        due(lines + " :" + line + " buffer", x.buffer(), 0);
        due(lines + " :" + line + " mode", x.mode(), 0);
    }

    private static void ranges() {
        String lines = "abc|abd|abe|abf";
        line(lines, "jl", "", lines, at(1, 1));
        line(lines, "jl", ".", lines, at(1, 0));
        line(lines, "jl", "$", lines, at(3, 0));
        line(lines, "jl", "%", lines, at(3, 0));
        line(lines, "jl", "3", lines, at(2, 0));
        line(lines, "jl", "03", lines, at(2, 0));
        line("1|2|3|4|5|6|7|8|9|0", "", "9", "1|2|3|4|5|6|7|8|9|0", at(8, 0));
        line("1|2|3|4|5|6|7|8|9|0", "", "10d", "1|2|3|4|5|6|7|8|9", at(8, 0));
        line("1|2|3|4|5|6|7|8|9|0", "", "09d", "1|2|3|4|5|6|7|8|0", at(8, 0));
        line(lines, "jl", "1,3", lines, at(2, 0));
        line(lines, "jl", ".,$", lines, at(3, 0));
        line(lines, "jl", "/b/", lines, at(2, 0));
        line(lines, "jl", "/d/", lines, at(1, 0));
        line(lines, "jl", "/c/", lines, at(0, 0));
        line(lines, "jl", "/c/,/e/d", "abf", 0);
        line(lines, "jl", "d", "abc|abe|abf", at(1, 0));
        line(lines, "jl", "%d", "", 0);
        line(lines, "jl", "3,$d", "abc|abd", at(1, 0));
        line("a]b|c", "", "/c/", "a]b|c", at(1, 0));
        for (String wrong : new String[] {"0", "00", "5", "12", "005", "1,5", "3,2", "1,", ",2", "%,2", "1,2,3", " ",
            "1 d", "d ", "dd", "x", "p", "pr", "prex", "ww", "1,2w ", "/b", "//", "/z/", "/[/", "/\\//", "/[/]/", "-",
            "/e/,/c/", "5pre", "0w", "s", "g", "1,%", "+", "%%"}) {
            lineRings(lines, "jl", wrong);
        }
        KeyScreen x = with(lines);
        due("d holds its lines", last(x, ":2,3d" + ENTER) + held(x) + x.buffer(), "0" + "abd|abe" + 2);
    }

    private static void exchanges() {
        line("aaa|bab|ccc", "", "s/a/x/", "xaa|bab|ccc", 0);
        line("aaa|bab|ccc", "", "%s/a/x/", "xaa|bxb|ccc", at(1, 0));
        line("aaa|bab|ccc", "G", "%s/a/x/g", "xxx|bxb|ccc", at(1, 0));
        line("aaa|bab|ccc", "$", "1,2s/a*/<&>/g", "<aaa>|<>b<a>b<>|ccc", at(1, 0));
        line("abc", "", "s/x*/-/g", "-a-b-c-", 0);
        line("abc", "", "s/x*/-/", "-abc", 0);
        line("abc", "", "s/b*/-/g", "-a-c-", 0);
        line("aaaaa", "", "s/aa/x/g", "xxa", 0);
        line("aabab", "", "s/a*b/<&>/g", "<aab><ab>", 0);
        line("aabab", "", "s/a*b/<&>/", "<aab>ab", 0);
        line("ababb", "", "s/b*$/-/g", "aba-", 0);
        line("abc", "", "s/$/-/g", "abc-", 0);
        line("aaa", "", "s/^a/-/g", "-aa", 0);
        line("aaa", "", "s/^/-/g", "-aaa", 0);
        line("", "", "s/^$/x/", "x", 0);
        line("abc", "", "s/b//", "ac", 0);
        line("abc", "", "s/.*//", "", 0);
        line("abc", "", "s/b/\\&\\/\\\\&/", "a&/\\bc", 0);
        line("abc", "", "s/b/&&&/", "abbbc", 0);
        line("aXbXc", "", "s/a.*X/-/", "-c", 0);
        line("1234567890", "", "s/.*/&&/", "12345678901234567890", 0);
        line("12345678", "", "s/[13]/&.&/g", "1.123.345678", 0);
        for (String wrong : new String[] {"s/q/r/", "s/a", "s/a/", "s/a/b", "s/a/b\\/", "s/a/b/gg", "s/a/b/ ", "s//b/",
            "s/*/b/", "s a b ", "s/a/b/c/", "s/\\//b/", "2s/a/x/", "sa/b/", "%s/q/r/g", "s/.*/&&&&&&&/", "s/./1234567/g", "sx"}) {
            lineRings("aaa|bbb|ccc", "l", wrong);
        }
        lineRings("a|aaaaaaaaaaa", "", "%s/a/&&/g");
        lineRings("12345678901234567890", "", "s/[1-5]/xx/");
        line("12345678901234567890", "", "s/[1-5]*/xx/", "xx678901234567890", 0);
    }

    private static void globals() {
        line("ab|c|ad|e", "jjj", "g/a/d", "c|e", at(1, 0));
        line("ab|c|ad", "", "g/a/d", "c", 0);
        line("ab|ac|ad", "", "g/a/d", "", 0);
        line("ab|c|ad|e", "", "g/./d", "", 0);
        line("ab|c|ad|e", "", "1,2g/a/d", "c|ad|e", 0);
        line("ab|c|ad|e", "", ".g/a/d", "c|ad|e", 0);
        line("ab|c|ad|e", "G", "g/a/s/[bd]/x/", "ax|c|ax|e", at(2, 0));
        line("ab|c|ad|e", "G", "g/a/s/b/x/", "ax|c|ad|e", 0);
        line("ab|c|ad|ef", "G$", "g/a/s/q/x/", "ab|c|ad|ef", at(3, 1));
        line("aab|c|aad", "", "g/a/s/a/x/g", "xxb|c|xxd", at(2, 0));
        line("ab||c", "", "g/^$/d", "ab|c", at(1, 0));
        line("ab||c", "", "g/$/s/$/./", "ab.|.|c.", at(2, 0));
        for (String wrong : new String[] {"g/q/d", "g/a/", "g/a", "g/a/w", "g/a/d ", "g/a/dd", "g/a/2d", "g/a/g/a/d",
            "g/a/pre", "gd", "gs/a/b/", "g//d", "g/*/d", "g/a/s/a/", "g/a/s//b/", "ga/d", "2g/a/d", "g/a/s/a/1234567890&&&1234567/",
            "g/c/s/a/x/y"}) {
            lineRings("aaa|bbb|ccc", "l", wrong);
        }
        lineRings("ab|aaaaaaaaaaa", "$", "g/a/s/a/xx/g");
        KeyScreen x = with("ab|c|ad");
        due("the buffer has the last one", last(x, ":g/a/d" + ENTER) + held(x) + x.buffer(), "0" + "ad" + 1);
        KeyScreen y = with("ab");
        due("a change all the same", last(y, "x:g/b/s/q/r/" + ENTER + "u") + text(y), "0b");
    }

    private static void disk() {
        KeyScreen x = with("ab|c|d");
        due("none waits", x.sync(), -1);
        due("w", last(x, ":w" + ENTER), 0);
        due("no file yet", x.file(), -1);
        type(x, "x");
        due("blocks", "" + x.sync() + x.sync() + x.sync() + x.file() + x.sync(), "321-10");
        due("the file", stored(x) + x.file() + x.sync(), "ab|c|d" + 3 + -1);
        due("stored", x.stored(0, 1), (int) 'b');
        for (int[] none : new int[][] {{-1, 0}, {0, -1}, {0, 2}, {3, 0}, {Integer.MAX_VALUE, 0}, {0, Integer.MIN_VALUE}}) {
            due("stored " + none[0] + " " + none[1], x.stored(none[0], none[1]), 0);
        }
        due("2,3w", last(x, ":2,3w" + ENTER), 0);
        due("pre", last(x, ":1pre" + ENTER), 0);
        due("2w", last(x, ":2w" + ENTER), 0);
        due("a fourth job", last(x, ":w" + ENTER), 1);
        due("a fourth job", last(x, ":pre" + ENTER), 1);
        due("blocks of all", x.sync(), 8);
        due("one begun waits, too", last(x, ":w" + ENTER), 1);
        due("blocks", "" + x.sync() + x.sync() + stored(x), "76" + "c|d");
        due("a job less", last(x, ":%w" + ENTER), 0);
        due("blocks", "" + x.sync() + x.sync() + x.sync(), "987");
        type(x, "dG");
        due("not yet safe", with("a").crash(), 1);
        due("the last block", x.sync(), 6);
        due("crash", x.crash() + text(x) + x.file() + x.sync() + x.mode(), 3 + "b|c|d" + 2 + -1 + 0);
        due("behind a crash", type(x, "u") + type(x, ".") + type(x, "p") + x.buffer(), "111" + -1);
        due("the file stays", stored(x), "c|d");
        due("nothing is held", x.held(0, 0), 0);
        due("a line as the first change", last(x, ":%s/[bc]/x/" + ENTER + "u") + text(x), "0" + "b|c|d");
        type(x, "x:pre" + ENTER);
        x.sync();
        due("a job that was not done", x.crash() + text(x), 3 + "b|c|d");
    }

    private static void crashes() {
        KeyScreen x = new KeyScreen(7);
        due("without a safe text", type(x, "iab" + ENTER + "c") + x.crash() + text(x) + x.lines(), "000001" + "" + 1);
        due("as at first", "" + x.mode() + x.cursor() + x.top(), "000");
        due("the width stays", "" + x.cell(0, 6) + x.cell(0, 7), "320");
        int sent = x.sent();
        due("nothing differs", x.crash() + x.sent(), 1 + sent);
        type(x, "3");
        x.crash();
        due("the last key", type(x, "i~") + text(x) + x.cell(0, 0), "00~" + 126);
        x.crash();
        due("an unfinished command is dropped", type(x, "$"), "0");
        type(x, ":1");
        x.crash();
        type(x, "oa" + ESC);
        due("a prompt has ended", x.mode() + type(x, ":" + ENTER) + x.cursor(), 0 + "00" + 32);
        type(x, "yy:1");
        x.crash();
        due("nothing is held", "" + x.buffer() + x.held(0, 0), "-10");
        KeyScreen y = new KeyScreen(5);
        type(y, "i1" + ENTER + "2" + ENTER + "3" + ENTER + "4" + ENTER + "5" + ENTER + "6" + ESC);
        due("top", y.top(), 1);
        type(y, ":pre" + ENTER);
        for (int i = 0; i < 7; i++) {
            y.sync();
        }
        due("top behind a crash", y.crash() + " " + y.top() + screen(y), "6 0" + "1    |2    |3    |4    |5    ");
    }

    private static void window() {
        KeyScreen x = new KeyScreen(5);
        due("a key that rings", type(x, "h") + x.sent() + screen(x), "1" + 16 + "     |~    |~    |~    |~    ");
        type(x, "i12345");
        due("they just fill their row", screen(x) + x.sent(), "12345|~    |~    |~    |~    " + 36);
        type(x, "6");
        due("one more row", screen(x) + x.sent(), "12345|6    |~    |~    |~    " + 40);
        type(x, ENTER + "abcdefghijklmnop" + ESC);
        due("TOP", x.top() + screen(x), 1 + "abcde|fghij|klmno|p    |~    ");
        type(x, "k");
        due("@", x.top() + screen(x), 0 + "12345|6    |@    |@    |@    ");
        due("refused", "" + x.resize(4) + x.resize(21) + x.resize(Integer.MIN_VALUE), "falsefalsefalse");
        due("refused", x.cell(0, 4), (int) '5');
        int sent = x.sent();
        due("resize", x.resize(16) + screen(x), "true" + "123456          |abcdefghijklmnop|~               |~"
                + "               |~               ");
        due("sent anew", x.sent() - sent, 9 + 19 + 4 + 4 + 4);
        due("to the same width", x.resize(16), true);
        due("sent anew", x.sent() - sent, 2 * 40);
        due("cells", "" + x.cell(4, 0) + x.cell(1, 15), "126112");
        for (int[] none : new int[][] {{-1, 0}, {5, 0}, {0, -1}, {0, 16}, {Integer.MAX_VALUE, 0}, {0, Integer.MAX_VALUE}}) {
            due("cell " + none[0] + " " + none[1], x.cell(none[0], none[1]), 0);
        }
        sent = x.sent();
        type(x, "0r");
        due("nothing differs", x.sent(), sent);
        type(x, "l");
        due("a motion sends nothing", x.sent(), sent);
        type(x, "jO" + ESC);
        due("rows between the first and the last cell", x.sent() - sent, 19 + 19);
        KeyScreen y = with("1|2|3|4|5|6|7");
        due("TOP is the cursor's line", type(y, "G") + y.top() + type(y, "2G") + y.top() + type(y, "5G") + y.top(),
                "0" + 2 + "00" + 1 + "00" + 1);
        due("TOP by a resize", type(y, "G") + y.top(), "0" + 2);
        type(y, "A23456789012345678" + ESC);
        due("TOP by a resize", y.resize(5) + "" + y.top(), "true" + 5);
        due("TOP stays", y.resize(20) + "" + y.top(), "true" + 5);
        due("lines that are taken out", type(y, ":3,7d" + ENTER) + y.top() + screen(y).charAt(0), "000000" + 1 + "2");
        KeyScreen z = with("");
        type(z, "iab" + BACK + ESC + "x");
        sent = z.sent();
        due("a period sends once", type(z, "ia" + BACK + "b" + ESC) + (z.sent() - sent), "00000" + 12);
        sent = z.sent();
        due("a period sends once", type(z, ".") + text(z) + (z.sent() - sent), "0bb" + 4);
    }

    private static void answersWithoutSuchALine() {
        KeyScreen x = with("ab|");
        due("length", "" + x.length(0) + x.length(1) + x.length(2) + x.length(-1), "20-1-1");
        due("length", x.length(Integer.MAX_VALUE) + x.length(Integer.MIN_VALUE), -2);
        due("letter", "" + x.letter(0, 0) + x.letter(0, 1), "9798");
        for (int[] none : new int[][] {{-1, 0}, {0, -1}, {0, 2}, {1, 0}, {2, 0}, {10, 0}, {0, 20}, {1, -1},
            {Integer.MAX_VALUE, 0}, {Integer.MIN_VALUE, 0}, {0, Integer.MAX_VALUE}, {0, Integer.MIN_VALUE}}) {
            due("letter " + none[0] + " " + none[1], x.letter(none[0], none[1]), 0);
        }
        due("held of nothing", x.held(0, 0), 0);
        type(x, "2yy");
        due("held", "" + x.buffer() + x.held(0, 0) + x.held(0, 1), "29798");
        for (int[] none : new int[][] {{-1, 0}, {0, -1}, {0, 2}, {1, 0}, {2, 0}, {10, 0}, {0, 20},
            {Integer.MAX_VALUE, 0}, {Integer.MIN_VALUE, 0}, {0, Integer.MAX_VALUE}, {0, Integer.MIN_VALUE}}) {
            due("held " + none[0] + " " + none[1], x.held(none[0], none[1]), 0);
        }
        type(x, "yl");
        due("held characters", "" + x.buffer() + x.held(0, 0) + x.held(0, 1) + x.held(1, 0), "09700");
        due("cursor in INSERT", type(x, "A") + x.cursor() + x.mode(), "0" + 2 + 1);
    }

    public static void main(String[] args) {
        newObject();
        keysThatAreNone();
        countsAndUnfinishedCommands();
        plainMotions();
        words();
        operatorsOnLines();
        operatorsOnLetters();
        putting();
        beginnings();
        inserting();
        undo();
        period();
        prompting();
        searching();
        ranges();
        exchanges();
        globals();
        disk();
        crashes();
        window();
        answersWithoutSuchALine();
        System.out.println(wrong == 0 ? "all promises hold" : wrong + " answers are not as due");
        if (wrong != 0) {
            System.exit(1);
        }
    }
}
