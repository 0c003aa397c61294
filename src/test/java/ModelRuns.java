import java.util.ArrayList;
import java.util.Arrays;
import java.util.List;
import java.util.Random;

/**
 * Random runs, the same ones each time, of the program beside a model: the document once more, told with strings,
 * lists and regular expressions, and with no thought for room or speed. Each call's answer is compared, some of what
 * the object then looks like, and at some points of a run all of it.
 * Arguments, if any: the first seed and the number of runs.
 */
public final class ModelRuns {
    private static final char ESC = 27;
    private static final char ENTER = 10;
    private static final char BACK = 8;

    /** A pattern of the document as a regular expression, with its signs ^ and $ apart. */
    private static final class Sought {
        boolean fromStart;
        boolean toEnd;
        String expression = "";

        static Sought read(String source) {
            if (source.isEmpty()) {
                return null;
            }
            Sought sought = new Sought();
            String rest = source;
            if (rest.startsWith("^")) {
                sought.fromStart = true;
                rest = rest.substring(1);
            }
            int atoms = 0;
            while (!rest.isEmpty()) {
                if (rest.equals("$")) {
                    sought.toEnd = true;
                    break;
                }
                String taken;
                int used;
                if (rest.charAt(0) == '.') {
                    taken = all();
                    used = 1;
                } else if (rest.charAt(0) == '[') {
                    int close = rest.indexOf(']', 2);
                    if (close < 0) {
                        return null;
                    }
                    taken = set(rest.substring(1, close));
                    used = close + 1;
                } else if (rest.charAt(0) == '\\') {
                    if (rest.length() < 2) {
                        return null;
                    }
                    taken = rest.substring(1, 2);
                    used = 2;
                } else if (rest.charAt(0) == '*') {
                    return null;
                } else {
                    taken = rest.substring(0, 1);
                    used = 1;
                }
                rest = rest.substring(used);
                sought.expression += oneOf(taken);
                if (rest.startsWith("*")) {
                    sought.expression += "*";
                    rest = rest.substring(1);
                }
                atoms++;
                if (atoms > 8) {
                    return null;
                }
            }
            return sought;
        }

        static String all() {
            StringBuilder all = new StringBuilder();
            for (char c = 32; c <= 126; c++) {
                all.append(c);
            }
            return all.toString();
        }

        static String set(String content) {
            if (content.startsWith("^") && content.length() > 1) {
                String but = set2(content.substring(1));
                StringBuilder left = new StringBuilder();
                for (char c : all().toCharArray()) {
                    if (but.indexOf(c) < 0) {
                        left.append(c);
                    }
                }
                return left.toString();
            }
            return set2(content);
        }

        static String set2(String content) {
            if (content.isEmpty()) {
                return "";
            }
            if (content.length() >= 3 && content.charAt(1) == '-') {
                StringBuilder span = new StringBuilder();
                for (char c = content.charAt(0); c <= content.charAt(2); c++) {
                    span.append(c);
                }
                return span + set2(content.substring(3));
            }
            return content.charAt(0) + set2(content.substring(1));
        }

        static String oneOf(String taken) {
            if (taken.isEmpty()) {
                return "(?:(?!))";
            }
            StringBuilder set = new StringBuilder("[");
            for (char c : taken.toCharArray()) {
                set.append(String.format("\\x%02x", (int) c));
            }
            return set + "]";
        }

        /** The end of the match at a place, -1 when there is none. */
        int end(String line, int place) {
            if (fromStart && place > 0) {
                return -1;
            }
            for (int q = line.length(); q >= place; q--) {
                if ((!toEnd || q == line.length()) && line.substring(place, q).matches(expression)) {
                    return q;
                }
            }
            return -1;
        }

        boolean isIn(String line) {
            for (int p = 0; p <= line.length(); p++) {
                if (end(line, p) >= 0) {
                    return true;
                }
            }
            return false;
        }
    }

    private static final class Job {
        boolean preserve;
        List<String> lines;
        int written;
    }

    private static final class Model {
        List<String> text = new ArrayList<>(List.of(""));
        int line;
        int column;
        int mode;
        List<String> otherText;
        int otherLine;
        int otherColumn;
        List<String> held;
        boolean heldAreLines;
        String pending = "";
        String latest = "";
        int insertColumn;
        char promptKind;
        String prompt = "";
        List<String> file;
        List<String> safe;
        List<Job> jobs = new ArrayList<>();
        int width;
        int top;
        int sent;
        String[] terminal;

        Model(int width) {
            this.width = width < 5 || width > 20 ? 10 : width;
            wipe();
        }

        void wipe() {
            terminal = new String[5];
            Arrays.fill(terminal, " ".repeat(width));
        }

        int key(int code) {
            if (!(code >= 32 && code <= 126) && code != 27 && code != 10 && code != 8) {
                return -1;
            }
            char c = (char) code;
            boolean taken;
            if (mode == 0 && pending.isEmpty() && c == '.') {
                taken = period();
            } else {
                taken = work(c, true);
            }
            refresh();
            return taken ? 0 : 1;
        }

        boolean period() {
            if (latest.isEmpty() || latest.length() > 8) {
                return false;
            }
            boolean all = true;
            for (char c : latest.toCharArray()) {
                int before = mode;
                if (!work(c, false)) {
                    all = false;
                    if (before == 0) {
                        break;
                    }
                }
            }
            return all;
        }

        boolean work(char c, boolean typed) {
            if (mode == 0) {
                return command(c, typed);
            }
            if (mode == 1) {
                boolean taken = insert(c);
                if (taken && typed) {
                    latest += c;
                }
                return taken;
            }
            return prompt(c);
        }

        boolean command(char c, boolean typed) {
            if (c == ESC) {
                pending = "";
                return true;
            }
            String whole = pending + c;
            if (whole.matches("([1-9][0-9]?)?[dcy]?")) {
                pending = whole;
                return true;
            }
            pending = "";
            String count = "([1-9][0-9]?)?";
            if (whole.matches(count + "[hljkGwb]|[0$]")) {
                int[] to = motion(c, number(whole));
                if (to == null) {
                    return false;
                }
                line = to[0];
                column = to[1];
                settle();
                return true;
            }
            List<String> before = new ArrayList<>(text);
            int beforeLine = line;
            int beforeColumn = column;
            boolean change = true;
            boolean taken;
            if (whole.matches(count + "x")) {
                taken = operate('d', 'l', number(whole));
            } else if (whole.matches(count + "([dcy])([hljkGwb]|\\2)|[dcy][0$]")) {
                char operator = whole.charAt(whole.length() - 2);
                taken = operate(operator, c, number(whole));
                change = operator != 'y';
            } else if (whole.matches("[pPiaIAoO]")) {
                taken = c == 'p' || c == 'P' ? put(c == 'p') : begin(c);
            } else if (whole.equals("u")) {
                change = false;
                taken = otherText != null;
                if (taken) {
                    text = otherText;
                    line = otherLine;
                    column = otherColumn;
                    otherText = before;
                    otherLine = beforeLine;
                    otherColumn = beforeColumn;
                }
            } else if (whole.matches("[:/]")) {
                change = false;
                taken = true;
                mode = 2;
                promptKind = c;
                prompt = "";
            } else {
                return false;
            }
            if (taken && change) {
                otherText = before;
                otherLine = beforeLine;
                otherColumn = beforeColumn;
                if (typed) {
                    latest = whole;
                }
            }
            return taken;
        }

        /** The count at the beginning of a command, 0 when there is none. */
        int number(String whole) {
            String digits = whole.replaceAll("[^0-9].*", "");
            return digits.isEmpty() ? 0 : Integer.parseInt(digits);
        }

        void settle() {
            column = Math.max(0, Math.min(column, text.get(line).length() - 1));
        }

        int[] motion(char c, int count) {
            int n = count == 0 ? 1 : count;
            int last = Math.max(0, text.get(line).length() - 1);
            if (c == 'h') {
                return column == 0 ? null : new int[] {line, Math.max(0, column - n)};
            } else if (c == 'l') {
                return column == last ? null : new int[] {line, Math.min(last, column + n)};
            } else if (c == 'j' || c == 'k') {
                int to = c == 'j' ? line + n : line - n;
                return to < 0 || to >= text.size() ? null : new int[] {to, column};
            } else if (c == '0') {
                return new int[] {line, 0};
            } else if (c == '$') {
                return new int[] {line, last};
            } else if (c == 'G') {
                int to = count == 0 ? text.size() : count;
                return to > text.size() ? null : new int[] {to - 1, 0};
            }
            List<int[]> stops = new ArrayList<>();
            for (int i = 0; i < text.size(); i++) {
                String s = text.get(i);
                if (s.isEmpty() && isAhead(i, 0, c)) {
                    stops.add(new int[] {i, 0});
                }
                for (int j = 0; j < s.length(); j++) {
                    if (s.charAt(j) != ' ' && (j == 0 || kind(s.charAt(j)) != kind(s.charAt(j - 1)))
                            && isAhead(i, j, c)) {
                        stops.add(new int[] {i, j});
                    }
                }
            }
            if (stops.size() < n) {
                return null;
            }
            return stops.get(c == 'w' ? n - 1 : stops.size() - n);
        }

        boolean isAhead(int i, int j, char c) {
            int place = i * 100 + j;
            int cursor = line * 100 + column;
            return c == 'w' ? place > cursor : place < cursor;
        }

        char kind(char c) {
            return c == ' ' ? ' ' : String.valueOf(c).matches("[A-Za-z0-9_]") ? 'w' : 'o';
        }

        boolean operate(char operator, char c, int count) {
            int n = count == 0 ? 1 : count;
            String s = text.get(line);
            if (c == operator) {
                return line + n <= text.size() && operateLines(operator, line, line + n - 1);
            }
            int[] to = motion(c, count);
            if (c == 'j' || c == 'k' || c == 'G') {
                return to != null && operateLines(operator, Math.min(line, to[0]), Math.max(line, to[0]));
            }
            int from = column;
            int end = s.length();
            if (c == 'h') {
                from = Math.max(0, column - n);
                end = column;
            } else if (c == 'l') {
                end = Math.min(end, column + n);
            } else if (c == '0') {
                from = 0;
                end = column;
            } else if (c == 'w' && to != null && to[0] == line) {
                end = to[1];
            } else if (c == 'b') {
                if (to == null || to[0] != line) {
                    return false;
                }
                from = to[1];
                end = column;
            }
            if (from >= end) {
                return false;
            }
            held = List.of(s.substring(from, end));
            heldAreLines = false;
            if (operator == 'y') {
                return true;
            }
            text.set(line, s.substring(0, from) + s.substring(end));
            column = from;
            if (operator == 'c') {
                mode = 1;
                insertColumn = from;
            } else {
                settle();
            }
            return true;
        }

        boolean operateLines(char operator, int from, int to) {
            held = new ArrayList<>(text.subList(from, to + 1));
            heldAreLines = true;
            if (operator == 'y') {
                return true;
            }
            text.subList(from, to + 1).clear();
            column = 0;
            if (operator == 'c') {
                text.add(from, "");
                line = from;
                mode = 1;
                insertColumn = 0;
                return true;
            }
            if (text.isEmpty()) {
                text.add("");
            }
            line = Math.min(from, text.size() - 1);
            return true;
        }

        boolean put(boolean behind) {
            if (held == null) {
                return false;
            }
            if (heldAreLines) {
                if (text.size() + held.size() > 10) {
                    return false;
                }
                line = behind ? line + 1 : line;
                text.addAll(line, held);
                column = 0;
                return true;
            }
            String s = text.get(line);
            String more = held.get(0);
            if (s.length() + more.length() > 20) {
                return false;
            }
            int at = behind && !s.isEmpty() ? column + 1 : column;
            text.set(line, s.substring(0, at) + more + s.substring(at));
            column = at + more.length() - 1;
            return true;
        }

        boolean begin(char c) {
            String s = text.get(line);
            String blanks = s.substring(0, s.length() - s.replaceAll("^ +", "").length());
            if (c == 'o' || c == 'O') {
                if (text.size() == 10) {
                    return false;
                }
                line = c == 'o' ? line + 1 : line;
                text.add(line, blanks);
                column = blanks.length();
            } else if (c == 'a' && !s.isEmpty()) {
                column++;
            } else if (c == 'I') {
                column = blanks.length();
            } else if (c == 'A') {
                column = s.length();
            }
            mode = 1;
            insertColumn = column;
            return true;
        }

        boolean insert(char c) {
            String s = text.get(line);
            if (c == ESC) {
                mode = 0;
                column = Math.max(0, column - 1);
            } else if (c == ENTER) {
                if (text.size() == 10) {
                    return false;
                }
                int begins = s.length() - s.replaceAll("^ +", "").length();
                String blanks = " ".repeat(Math.min(begins, column));
                text.set(line, s.substring(0, column));
                line++;
                text.add(line, blanks + s.substring(column));
                column = blanks.length();
                insertColumn = column;
            } else if (c == BACK) {
                if (column == insertColumn) {
                    return false;
                }
                text.set(line, s.substring(0, column - 1) + s.substring(column));
                column--;
            } else {
                if (s.length() == 20) {
                    return false;
                }
                text.set(line, s.substring(0, column) + c + s.substring(column));
                column++;
            }
            return true;
        }

        boolean prompt(char c) {
            if (c == ESC || c == BACK && prompt.isEmpty()) {
                mode = 0;
                return true;
            }
            if (c == BACK) {
                prompt = prompt.substring(0, prompt.length() - 1);
                return true;
            }
            if (c != ENTER) {
                if (prompt.length() == 30) {
                    return false;
                }
                prompt += c;
                return true;
            }
            mode = 0;
            return promptKind == '/' ? search() : commandLine();
        }

        boolean search() {
            Sought sought = Sought.read(prompt);
            if (sought == null) {
                return false;
            }
            List<int[]> places = new ArrayList<>();
            int cursor = 0;
            for (int i = 0; i < text.size(); i++) {
                for (int j = 0; j <= text.get(i).length(); j++) {
                    if (i == line && j == column) {
                        cursor = places.size();
                    }
                    places.add(new int[] {i, j});
                }
            }
            for (int i = 1; i <= places.size(); i++) {
                int[] place = places.get((cursor + i) % places.size());
                if (sought.end(text.get(place[0]), place[1]) >= 0) {
                    line = place[0];
                    column = place[1];
                    settle();
                    return true;
                }
            }
            return false;
        }

        boolean commandLine() {
            if (prompt.isEmpty()) {
                return true;
            }
            String address = "(?:[0-9][0-9]?|\\.|\\$|/[^/]*/)";
            java.util.regex.Matcher m = java.util.regex.Pattern
                    .compile("(%|(" + address + ")(?:,(" + address + "))?|)"
                            + "(|d|w|pre|s/.*|g/.*)").matcher(prompt);
            if (!m.matches()) {
                return false;
            }
            int first = line;
            int last = line;
            String command = m.group(4);
            if (m.group(1).equals("%") || m.group(1).isEmpty() && command.matches("w|g.*")) {
                first = 0;
                last = text.size() - 1;
            } else if (m.group(2) != null) {
                first = address(m.group(2));
                last = m.group(3) == null ? first : address(m.group(3));
                if (first < 0 || last < first) {
                    return false;
                }
            }
            if (command.isEmpty()) {
                line = last;
                column = 0;
                return true;
            }
            if (command.equals("w") || command.equals("pre")) {
                if (jobs.size() == 3) {
                    return false;
                }
                Job job = new Job();
                job.preserve = command.equals("pre");
                job.lines = job.preserve ? new ArrayList<>(text) : new ArrayList<>(text.subList(first, last + 1));
                jobs.add(job);
                return true;
            }
            List<String> before = new ArrayList<>(text);
            int beforeLine = line;
            int beforeColumn = column;
            boolean done;
            if (command.equals("d")) {
                done = operateLines('d', first, last);
            } else if (command.startsWith("s")) {
                done = exchange(command, first, last) == 1;
            } else {
                done = global(command, first, last);
            }
            if (done) {
                otherText = before;
                otherLine = beforeLine;
                otherColumn = beforeColumn;
            } else {
                text = before;
                line = beforeLine;
                column = beforeColumn;
            }
            return done;
        }

        int address(String a) {
            if (a.equals(".")) {
                return line;
            }
            if (a.equals("$")) {
                return text.size() - 1;
            }
            if (a.startsWith("/")) {
                Sought sought = Sought.read(a.substring(1, a.length() - 1));
                for (int i = 1; sought != null && i <= text.size(); i++) {
                    int seen = (line + i) % text.size();
                    if (sought.isIn(text.get(seen))) {
                        return seen;
                    }
                }
                return -1;
            }
            int number = Integer.parseInt(a);
            return number > text.size() ? -1 : number - 1;
        }

        /** 1: done, 0: no match, -1: it can't be done. */
        int exchange(String command, int first, int last) {
            java.util.regex.Matcher m = java.util.regex.Pattern
                    .compile("s/([^/]*)/((?:\\\\.|[^\\\\/])*)/(g?)").matcher(command);
            Sought sought = m.matches() ? Sought.read(m.group(1)) : null;
            if (sought == null) {
                return -1;
            }
            int found = 0;
            for (int i = first; i <= last; i++) {
                String s = text.get(i);
                StringBuilder made = new StringBuilder();
                int behind = -1;
                int from = 0;
                while (from <= s.length()) {
                    int q = sought.end(s, from);
                    if (q < 0 || q == behind) {
                        made.append(s, from, Math.min(from + 1, s.length()));
                        from++;
                        continue;
                    }
                    made.append(replacement(m.group(2), s.substring(from, q)));
                    behind = q;
                    if (m.group(3).isEmpty()) {
                        made.append(s.substring(q));
                        break;
                    }
                    if (q == from) {
                        made.append(s, from, Math.min(from + 1, s.length()));
                        from++;
                    } else {
                        from = q;
                    }
                }
                if (behind >= 0) {
                    if (made.length() > 20) {
                        return -1;
                    }
                    text.set(i, made.toString());
                    line = i;
                    column = 0;
                    found = 1;
                }
            }
            return found;
        }

        String replacement(String with, String matched) {
            StringBuilder made = new StringBuilder();
            for (int i = 0; i < with.length(); i++) {
                char c = with.charAt(i);
                if (c == '&') {
                    made.append(matched);
                } else if (c == '\\') {
                    i++;
                    made.append(with.charAt(i));
                } else {
                    made.append(c);
                }
            }
            return made.toString();
        }

        boolean global(String command, int first, int last) {
            int slash = command.indexOf('/', 2);
            Sought sought = slash < 0 ? null : Sought.read(command.substring(2, slash));
            String then = slash < 0 ? "" : command.substring(slash + 1);
            if (sought == null || !then.equals("d") && !then.startsWith("s")) {
                return false;
            }
            List<Integer> noted = new ArrayList<>();
            for (int i = first; i <= last; i++) {
                if (sought.isIn(text.get(i))) {
                    noted.add(i);
                }
            }
            for (int i = 0; i < noted.size(); i++) {
                if (then.equals("d")) {
                    operateLines('d', noted.get(i) - i, noted.get(i) - i);
                } else if (exchange(then, noted.get(i), noted.get(i)) < 0) {
                    return false;
                }
            }
            return !noted.isEmpty();
        }

        int sync() {
            if (jobs.isEmpty()) {
                return -1;
            }
            Job job = jobs.get(0);
            job.written++;
            if (job.written == job.lines.size() + 1) {
                jobs.remove(0);
                if (job.preserve) {
                    safe = job.lines;
                } else {
                    file = job.lines;
                }
            }
            int wait = 0;
            for (Job each : jobs) {
                wait += each.lines.size() + 1 - each.written;
            }
            return wait;
        }

        int crash() {
            text = new ArrayList<>(safe == null ? List.of("") : safe);
            line = 0;
            column = 0;
            mode = 0;
            otherText = null;
            held = null;
            latest = "";
            pending = "";
            jobs.clear();
            top = 0;
            refresh();
            return text.size();
        }

        boolean resize(int w) {
            if (w < 5 || w > 20) {
                return false;
            }
            width = w;
            wipe();
            refresh();
            return true;
        }

        int rows(int i) {
            int rows = 1;
            while (rows * width < text.get(i).length()) {
                rows++;
            }
            return rows;
        }

        int rowsToCursor() {
            int rows = 0;
            for (int i = top; i <= line; i++) {
                rows += rows(i);
            }
            return rows;
        }

        void refresh() {
            if (line < top) {
                top = line;
            }
            while (rowsToCursor() > 5) {
                top++;
            }
            List<String> rows = new ArrayList<>();
            for (int i = top; i < text.size() && rows.size() < 5; i++) {
                if (rows.size() + rows(i) > 5) {
                    while (rows.size() < 5) {
                        rows.add("@");
                    }
                } else {
                    String s = text.get(i);
                    for (int r = 0; r < rows(i); r++) {
                        rows.add(s.substring(r * width, Math.min(s.length(), (r + 1) * width)));
                    }
                }
            }
            while (rows.size() < 5) {
                rows.add("~");
            }
            for (int r = 0; r < 5; r++) {
                String row = rows.get(r) + " ".repeat(width - rows.get(r).length());
                if (!row.equals(terminal[r])) {
                    int a = 0;
                    while (row.charAt(a) == terminal[r].charAt(a)) {
                        a++;
                    }
                    int z = width - 1;
                    while (row.charAt(z) == terminal[r].charAt(z)) {
                        z--;
                    }
                    sent += 3 + z - a + 1;
                    terminal[r] = row;
                }
            }
        }

        static char at(List<String> lines, int i, int j) {
            return lines == null || i < 0 || i >= lines.size() || j < 0 || j >= lines.get(i).length()
                    ? 0 : lines.get(i).charAt(j);
        }
    }

    private static final String[] COMMANDS = {
        "h", "l", "j", "k", "0", "$", "G", "w", "b", "1G", "3G", "12G", "2w", "3w", "2b", "4l", "3h", "2j", "2k",
        "dd", "2dd", "cc", "2cc", "yy", "3yy", "dj", "dk", "yG", "d2", "2dG", "yk", "cj", "ck", "dG", "y1",
        "x", "3x", "20x", "dw", "2dw", "cw", "2cw", "yw", "db", "cb", "2yb", "dh", "2dh", "ch", "dl", "3cl", "yl",
        "d0", "c0", "y0", "d$", "c$", "y$", "3d0", "2d$", "3$", "100", "p", "P", "p", "P", "2p", "i", "a", "I", "A",
        "o", "O", "i", "a", "A", "o", "u", "u", ".", ".", ".", "3.", "d.", "2u", "2:", "dd", "d/", "q", "dc", "yd",
    };
    private static final String[] ATOMS = {
        "a", "b", "a*", "b*", ".", ".*", "[ab]", "[^a]", "[a-c]*", "[^ ]", "\\.", "\\*", "c", " ", " *", "[]]", "[^]",
        "[^^]", "[-a]", "[c-a]", "[c-a]*", "[a-]", "$", "^", "]", "[a", "*", "\\", "x", "1*", "_", "[.\\]", "\\$",
    };

    private static String pick(Random random, String[] from) {
        return from[random.nextInt(from.length)];
    }

    private static String letters(Random random) {
        String from = "aaabbbccc  .._1-Xa b/";
        StringBuilder made = new StringBuilder();
        for (int n = random.nextInt(9); n > 0; n--) {
            made.append(from.charAt(random.nextInt(from.length())));
        }
        return made.toString();
    }

    private static String pattern(Random random) {
        StringBuilder made = new StringBuilder(random.nextInt(6) == 0 ? "^" : "");
        for (int n = random.nextInt(random.nextInt(10) == 0 ? 11 : 4); n > 0; n--) {
            made.append(pick(random, ATOMS));
        }
        return made.append(random.nextInt(6) == 0 ? "$" : "").toString();
    }

    private static String address(Random random) {
        switch (random.nextInt(8)) {
            case 0: return ".";
            case 1: return "$";
            case 2:
            case 3: return "/" + pattern(random) + "/";
            case 4: return String.format("%02d", random.nextInt(12));
            default: return String.valueOf(random.nextInt(7));
        }
    }

    private static String range(Random random) {
        switch (random.nextInt(6)) {
            case 0: return "%";
            case 1: return address(random);
            case 2: return address(random) + "," + address(random);
            case 3: return "1," + address(random);
            default: return "";
        }
    }

    private static String exchange(Random random) {
        String[] news = {"", "x", "&", "&&", "ab", "\\&", "\\/", "\\\\", "-", "a b", "[&]", "   "};
        return "s/" + pattern(random) + "/" + pick(random, news) + pick(random, news)
                + (random.nextInt(12) == 0 ? "" : "/") + (random.nextBoolean() ? "g" : "");
    }

    private static String line(Random random) {
        switch (random.nextInt(12)) {
            case 0: return range(random);
            case 1: return range(random) + "d";
            case 2:
            case 3: return range(random) + "w";
            case 4: return range(random) + "pre";
            case 5:
            case 6: return range(random) + "g/" + pattern(random) + "/d";
            case 7:
            case 8: return range(random) + "g/" + pattern(random) + "/" + exchange(random);
            case 9: return range(random) + letters(random);
            default: return range(random) + exchange(random);
        }
    }

    private static String keys(Random random, int mode) {
        if (random.nextInt(25) == 0) {
            return String.valueOf((char) random.nextInt(130));
        }
        if (mode == 1) {
            switch (random.nextInt(8)) {
                case 0: return String.valueOf(ENTER);
                case 1: return String.valueOf(BACK).repeat(1 + random.nextInt(3));
                case 2:
                case 3:
                case 4: return String.valueOf(ESC);
                default: return letters(random);
            }
        }
        if (mode == 2) {
            return random.nextInt(5) == 0 ? String.valueOf(BACK) : String.valueOf(ENTER);
        }
        switch (random.nextInt(10)) {
            case 0:
            case 1: return ":" + line(random) + ENTER;
            case 2: return "/" + pattern(random) + ENTER;
            case 3: return String.valueOf(random.nextInt(10) == 0 ? BACK : ESC);
            default: return pick(random, COMMANDS);
        }
    }

    /** A call, its argument, and what the model answered and looked like then. */
    private static final class Call {
        final String name;
        final int argument;
        long due;
        int[] looks;

        Call(String name, int argument) {
            this.name = name;
            this.argument = argument;
        }

        long make(KeyScreen x) {
            switch (name) {
                case "key": return x.key(argument);
                case "resize": return x.resize(argument) ? 1 : 0;
                case "sync": return x.sync();
                default: return x.crash();
            }
        }

        long make(Model x) {
            switch (name) {
                case "key": return x.key(argument);
                case "resize": return x.resize(argument) ? 1 : 0;
                case "sync": return x.sync();
                default: return x.crash();
            }
        }

        @Override
        public String toString() {
            boolean isShown = name.equals("key") && argument >= 32 && argument < 127;
            return name + "(" + argument + ")" + (isShown ? " " + (char) argument : "") + " due " + due;
        }
    }

    /** An object is used for at most 512 calls, so a run has fewer, and each part is looked at on an object of its own. */
    private static final int CALLS = 150;
    private static final int CUTS = 3;
    private static final String[] LOOKS = {"mode", "lines", "cursor", "buffer", "file", "top", "sent"};
    private static final String[] PARTS = {"letter", "held", "stored", "cell"};

    private static int look(KeyScreen x, int which) {
        switch (LOOKS[which]) {
            case "mode": return x.mode();
            case "lines": return x.lines();
            case "cursor": return x.cursor();
            case "buffer": return x.buffer();
            case "file": return x.file();
            case "top": return x.top();
            default: return x.sent();
        }
    }

    private static int[] looks(Model x) {
        int held = x.held == null ? -1 : x.heldAreLines ? x.held.size() : 0;
        return new int[] {x.mode, x.text.size(), x.line * 32 + x.column, held, x.file == null ? -1 : x.file.size(), x.top, x.sent};
    }

    private static int one(KeyScreen x, String part, int i, int j) {
        switch (part) {
            case "letter": return x.letter(i, j);
            case "held": return x.held(i, j);
            case "stored": return x.stored(i, j);
            default: return x.cell(i, j);
        }
    }

    private static String part(KeyScreen x, String part) {
        StringBuilder all = new StringBuilder();
        for (int i = -1; i <= 10; i++) {
            all.append('\n').append(part.equals("letter") ? x.length(i) : 0).append(':');
            for (int j = -1; j <= 20; j++) {
                all.append((char) one(x, part, i, j));
            }
        }
        return all.toString();
    }

    private static String part(Model x, String part) {
        List<String> from = part.equals("letter") ? x.text : part.equals("held") ? x.held
                : part.equals("stored") ? x.file : Arrays.asList(x.terminal);
        StringBuilder all = new StringBuilder();
        for (int i = -1; i <= 10; i++) {
            int length = i < 0 || i >= x.text.size() ? -1 : x.text.get(i).length();
            all.append('\n').append(part.equals("letter") ? length : 0).append(':');
            for (int j = -1; j <= 20; j++) {
                all.append(Model.at(from, i, j));
            }
        }
        return all.toString();
    }

    /** Some runs begin with a text near its limits. */
    private static String opening(Random random) {
        if (random.nextInt(3) != 0) {
            return "";
        }
        StringBuilder line = new StringBuilder();
        for (int n = 2 + random.nextInt(4); n > 0; n--) {
            line.append(letters(random));
        }
        return "i" + line + ESC + "yy" + "p".repeat(random.nextInt(10));
    }

    private static Call next(Random random) {
        switch (random.nextInt(40)) {
            case 0: return new Call("resize", random.nextInt(25));
            case 1: return random.nextInt(4) == 0 ? new Call("crash", 0) : new Call("sync", 0);
            case 2:
            case 3:
            case 4:
            case 5:
            case 6: return new Call("sync", 0);
            default: return null;
        }
    }

    private static void add(List<Call> calls, Call call, Model model) {
        call.due = call.make(model);
        call.looks = looks(model);
        calls.add(call);
    }

    private static boolean isWrong(long seed, List<Call> calls, int made, String what, Object got, Object due) {
        if (due.equals(got)) {
            return false;
        }
        System.out.println("seed " + seed + ":");
        for (int i = 0; i < made; i++) {
            System.out.println("  " + calls.get(i));
        }
        System.out.println(what + " answered " + (got + "").replace((char) 0, '`') + ", due is " + (due + "").replace((char) 0, '`'));
        return true;
    }

    private static boolean isPartWrong(long seed, int width, List<Call> calls, int cut, String part, String due) {
        KeyScreen x = new KeyScreen(width);
        for (int i = 0; i < cut; i++) {
            calls.get(i).make(x);
        }
        return isWrong(seed, calls, cut, part, part(x, part), due);
    }

    private static boolean areAnswersWrong(long seed, int width, List<Call> calls) {
        KeyScreen x = new KeyScreen(width);
        for (int i = 0; i < calls.size(); i++) {
            Call call = calls.get(i);
            if (isWrong(seed, calls, i + 1, "that call", call.make(x), call.due)) {
                return true;
            }
            // Two of them after each call keep the object below its 512 calls.
            int first = i % LOOKS.length;
            int second = (i + 3) % LOOKS.length;
            if (isWrong(seed, calls, i + 1, LOOKS[first], look(x, first), call.looks[first])
                    || isWrong(seed, calls, i + 1, LOOKS[second], look(x, second), call.looks[second])) {
                return true;
            }
        }
        return false;
    }

    private static boolean run(long seed) {
        Random random = new Random(seed);
        int width = random.nextInt(24);
        Model model = new Model(width);
        List<Call> calls = new ArrayList<>();
        List<Integer> cuts = new ArrayList<>();
        for (int i = 1; i < CUTS; i++) {
            cuts.add(1 + random.nextInt(CALLS));
        }
        cuts.add(CALLS);
        String keys = opening(random);
        while (calls.size() < CALLS) {
            Call other = keys.isEmpty() ? next(random) : null;
            if (other != null) {
                add(calls, other, model);
            } else if (keys.isEmpty()) {
                keys = keys(random, model.mode);
            } else {
                add(calls, new Call("key", keys.charAt(0)), model);
                keys = keys.substring(1);
            }
            if (cuts.contains(calls.size())) {
                for (String part : PARTS) {
                    if (isPartWrong(seed, width, calls, calls.size(), part, part(model, part))) {
                        return false;
                    }
                }
            }
        }
        return !areAnswersWrong(seed, width, calls);
    }

    public static void main(String[] args) {
        long first = args.length > 0 ? Long.parseLong(args[0]) : 1;
        int runs = args.length > 1 ? Integer.parseInt(args[1]) : 4000;
        int wrong = 0;
        for (int i = 0; i < runs && wrong < 3; i++) {
            if (!run(first + i)) {
                wrong++;
            }
        }
        System.out.println(runs + " runs, " + wrong + " of them not as due");
        if (wrong != 0) {
            System.exit(1);
        }
    }
}
