import java.util.ArrayDeque;
import java.util.ArrayList;
import java.util.Arrays;
import java.util.Deque;
import java.util.List;
import java.util.TreeMap;

/**
 * The document once more, written in another way and as slowly as it likes: texts by a machine with states, the law
 * reckoned from its text, nights minute by minute, all rows and sets tried.
 */
final class Plain {
    private static final int FAR = 1000000;

    private final int[][] streets = new int[14][];
    private int[] depths = new int[14];
    private int night;
    private int slept;
    private int swept;
    private int[] kept;
    private final int[] rooms = new int[5];
    private final String[] plans = {"", "", "", "", ""};
    private String law = "";
    private TreeMap<Integer, Integer> roads = new TreeMap<>();
    private TreeMap<Integer, Integer> farOf = new TreeMap<>();
    private final int[][] fars = new int[14][];
    private List<Integer> tape = new ArrayList<>();

    boolean street(int i, int houses, int lamps, int stars) {
        if (i < 0 || i > 13 || houses < 0 || houses > 99 || lamps < 0 || lamps > 9 || stars < 0 || stars > 99) {
            return false;
        }
        streets[i] = new int[] {houses, lamps, stars};
        return true;
    }

    boolean cart(int k, int room) {
        if (k < 0 || k > 4 || room < 1 || room > 99) {
            return false;
        }
        rooms[k] = room;
        return true;
    }

    private boolean told(int i) {
        return i >= 0 && i < 14 && streets[i] != null;
    }

    int pour(int i, int yards) {
        if (!told(i) || yards < 0 || yards > 999) {
            return -1;
        }
        depths[i] = Math.min(999, depths[i] + yards);
        return depths[i];
    }

    int feed(int a, int b, int c, int d, int e) {
        if (tape.size() > 240) {
            return -1;
        }
        for (int word : new int[] {a, b, c, d, e}) {
            for (byte part : java.nio.ByteBuffer.allocate(4).putInt(word).array()) {
                tape.add(part & 255);
            }
        }
        return tape.size();
    }

    /** The first bytes of the tape, which is empty then; null: no such number, or it has not so many. */
    private List<Integer> cutTape(int bytes, boolean fits) {
        if (!fits || bytes > tape.size()) {
            return null;
        }
        List<Integer> first = new ArrayList<>(tape.subList(0, bytes));
        tape = new ArrayList<>();
        return first;
    }

    private static String asText(List<Integer> bytes) {
        StringBuilder text = new StringBuilder();
        for (int each : bytes) {
            text.append((char) each);
        }
        return text.toString();
    }

    private static final class Fault extends RuntimeException {
        private static final long serialVersionUID = 1L;
        private final int answer;

        Fault(int number, int place) {
            super(null, null, false, false);
            answer = -1000 * number - place;
        }
    }

    int law(int n) {
        List<Integer> bytes = cutTape(n, n >= 1 && n <= 240);
        if (bytes == null) {
            return -1;
        }
        try {
            judgeLaw(asText(bytes));
        } catch (Fault fault) {
            return fault.answer;
        }
        law = asText(bytes);
        return law.split(";").length;
    }

    /** States: l a clause's letter, t a test's start, f a factor, a behind a factor, z behind a ) . */
    private static void judgeLaw(String text) {
        Deque<Character> open = new ArrayDeque<>();
        Deque<Character> sides = new ArrayDeque<>();
        char state = 'l';
        char side = 'h';
        int clauses = 0;
        int digits = 0;
        for (int place = 0; place <= text.length(); place++) {
            char c = place < text.length() ? text.charAt(place) : '$';
            if (place == text.length() && state == 'z' && open.isEmpty()) {
                return;
            }
            if (place == text.length() || c == '$') {
                throw new Fault(1, place);
            }
            boolean opens = false;
            if (state == 'l') {
                if ("wcsu".indexOf(c) < 0) {
                    throw new Fault(1, place);
                }
                if (++clauses > 16) {
                    throw new Fault(4, place);
                }
                state = 'f';
                side = 'h';
            } else if (state == 't' && (c == '!' || c == '(')) {
                opens = true;
            } else if (state == 't' || state == 'f') {
                if (state == 't') {
                    side = 'l';
                }
                if (c == '[') {
                    opens = true;
                    state = 'f';
                } else if (c >= '0' && c <= '9') {
                    digits = 1;
                    state = 'a';
                } else if ("ihldgrnk".indexOf(c) >= 0) {
                    digits = 0;
                    state = 'a';
                } else {
                    throw new Fault(1, place);
                }
            } else if (state == 'a') {
                boolean inBracket = !open.isEmpty() && open.peek() == '[';
                if (digits > 0 && c >= '0' && c <= '9') {
                    if (++digits > 5) {
                        throw new Fault(2, place);
                    }
                } else if ("+-*/%".indexOf(c) >= 0) {
                    state = 'f';
                } else if (inBracket) {
                    if (c != ']') {
                        throw new Fault(1, place);
                    }
                    open.pop();
                    side = sides.pop();
                    digits = 0;
                } else if (side == 'h' && c == '(') {
                    opens = true;
                    state = 't';
                } else if (side == 'l' && "<>=".indexOf(c) >= 0) {
                    side = 'r';
                    state = 'f';
                } else if (side == 'r' && "&|)".indexOf(c) >= 0) {
                    state = endTest(open, c);
                } else {
                    throw new Fault(1, place);
                }
            } else if (open.isEmpty()) {
                if (c != ';') {
                    throw new Fault(1, place);
                }
                state = 'l';
            } else {
                if ("&|)".indexOf(c) < 0) {
                    throw new Fault(1, place);
                }
                state = endTest(open, c);
            }
            if (opens) {
                if (open.size() == 6) {
                    throw new Fault(5, place);
                }
                open.push(c);
                if (c == '[') {
                    sides.push(side);
                }
            }
        }
    }

    private static char endTest(Deque<Character> open, char c) {
        while (!open.isEmpty() && open.peek() == '!') {
            open.pop();
        }
        if (c != ')') {
            return 't';
        }
        open.pop();
        while (!open.isEmpty() && open.peek() == '!') {
            open.pop();
        }
        return 'z';
    }

    private int ask(char letter, int i, int lamps, int depth, int hour, int k) {
        int[] facts = {i, streets[i][0], lamps, depth, streets[i][2], hour, night, k};
        for (String clause : law.isEmpty() ? new String[0] : law.split(";")) {
            int middle = clause.indexOf('(');
            if (clause.charAt(0) == letter) {
                boolean holds;
                try {
                    holds = choice(clause.substring(middle + 1, clause.length() - 1), facts);
                } catch (ArithmeticException refused) {
                    holds = false;
                }
                if (holds) {
                    int worth;
                    try {
                        worth = sum(clause.substring(1, middle), facts);
                    } catch (ArithmeticException refused) {
                        worth = 0;
                    }
                    return Math.max(0, Math.min(letter == 'u' ? 9 : 999, worth));
                }
            }
        }
        return 0;
    }

    /** Where the last one of some signs stands that is in no bracket; -1: nowhere. */
    private static int lastOutside(String text, String signs) {
        int open = 0;
        int found = -1;
        for (int p = 0; p < text.length(); p++) {
            char c = text.charAt(p);
            open += c == '(' || c == '[' ? 1 : c == ')' || c == ']' ? -1 : 0;
            if (open == 0 && signs.indexOf(c) >= 0) {
                found = p;
            }
        }
        return found;
    }

    private static boolean choice(String text, int[] facts) {
        int or = lastOutside(text, "|");
        if (or >= 0) {
            return choice(text.substring(0, or), facts) || choice(text.substring(or + 1), facts);
        }
        int and = lastOutside(text, "&");
        if (and >= 0) {
            return choice(text.substring(0, and), facts) && choice(text.substring(and + 1), facts);
        }
        if (text.charAt(0) == '!') {
            return !choice(text.substring(1), facts);
        }
        if (text.charAt(0) == '(') {
            return choice(text.substring(1, text.length() - 1), facts);
        }
        int sign = lastOutside(text, "<>=");
        int left = sum(text.substring(0, sign), facts);
        int right = sum(text.substring(sign + 1), facts);
        return text.charAt(sign) == '<' ? left < right : text.charAt(sign) == '>' ? left > right : left == right;
    }

    private static int sum(String text, int[] facts) {
        int sign = lastOutside(text, "+-");
        if (sign < 0) {
            sign = lastOutside(text, "*/%");
        }
        if (sign >= 0) {
            int left = sum(text.substring(0, sign), facts);
            int right = sum(text.substring(sign + 1), facts);
            switch (text.charAt(sign)) {
                case '+': return left + right;
                case '-': return left - right;
                case '*': return left * right;
                case '/': return left / right;
                default: return left % right;
            }
        }
        if (text.charAt(0) == '[') {
            return sum(text.substring(1, text.length() - 1), facts);
        }
        int fact = "ihldgrnk".indexOf(text.charAt(0));
        return fact >= 0 ? facts[fact] : Integer.parseInt(text);
    }

    int roads(int n) {
        List<Integer> bytes = cutTape(n, n >= 1 && n <= 200);
        if (bytes == null) {
            return -1;
        }
        TreeMap<Integer, Integer> fresh = new TreeMap<>();
        int lines = 0;
        int place = 0;
        try {
            while (true) {
                int a = letter(bytes, place);
                if (lines == 40) {
                    throw new Fault(4, place);
                }
                needTold(a, place);
                int b = letter(bytes, place + 1);
                needTold(b, place + 1);
                if (a == b) {
                    throw new Fault(6, place + 1);
                }
                int behind = numberEnd(bytes, place + 2);
                int minutes = Integer.parseInt(asText(bytes.subList(place + 2, behind)));
                if (minutes == 0) {
                    throw new Fault(3, place + 2);
                }
                fresh.put(Math.min(a, b) * 14 + Math.max(a, b), minutes);
                lines++;
                if (behind == bytes.size()) {
                    roads = fresh;
                    return lines;
                }
                if (bytes.get(behind) != ';') {
                    throw new Fault(1, behind);
                }
                place = behind + 1;
            }
        } catch (Fault fault) {
            return fault.answer;
        }
    }

    private static int letter(List<Integer> bytes, int place) {
        if (place >= bytes.size() || bytes.get(place) < 'a' || bytes.get(place) > 'n') {
            throw new Fault(1, place);
        }
        return bytes.get(place) - 'a';
    }

    private void needTold(int i, int place) {
        if (!told(i)) {
            throw new Fault(7, place);
        }
    }

    private static int numberEnd(List<Integer> bytes, int place) {
        int end = place;
        while (end < bytes.size() && end < place + 2 && Character.isDigit(bytes.get(end)) && bytes.get(end) < 58) {
            end++;
        }
        if (end == place) {
            throw new Fault(1, place);
        }
        return end;
    }

    int plan(int k, int n) {
        List<Integer> bytes = cutTape(n, k >= 0 && k <= 4 && n >= 1 && n <= 80);
        if (bytes == null) {
            return -1;
        }
        int stops = 0;
        int place = 0;
        try {
            while (true) {
                if (place >= bytes.size() || bytes.get(place) != '+') {
                    letter(bytes, place);
                }
                if (stops == 16) {
                    throw new Fault(4, place);
                }
                int behind = numberEnd(bytes, place + 1);
                stops++;
                if (behind == bytes.size()) {
                    plans[k] = asText(bytes);
                    return stops;
                }
                if (bytes.get(behind) != ',') {
                    throw new Fault(1, behind);
                }
                place = behind + 1;
            }
        } catch (Fault fault) {
            return fault.answer;
        }
    }

    private int wayBetween(int i, int j) {
        if (!roads.equals(farOf)) {
            farOf = new TreeMap<>(roads);
            Arrays.fill(fars, null);
        }
        if (fars[i] == null) {
            fars[i] = farFrom(i);
        }
        return fars[i][j] >= FAR ? -2 : fars[i][j];
    }

    private int[] farFrom(int i) {
        int[] far = new int[14];
        Arrays.fill(far, FAR);
        far[i] = 0;
        for (int turn = 0; turn < 14; turn++) {
            for (int pair : roads.keySet()) {
                int a = pair / 14;
                int b = pair % 14;
                far[a] = Math.min(far[a], far[b] + roads.get(pair));
                far[b] = Math.min(far[b], far[a] + roads.get(pair));
            }
        }
        return far;
    }

    /** What a night came to. */
    private static final class Gone {
        private final int[] totals = new int[6];
        private final int[] depths = new int[14];
        private final int[] loads = new int[5];
        private final int[] lasts = {-2, -2, -2, -2, -2};
    }

    private Gone goThrough(String[] itsPlans, int start) {
        Gone gone = new Gone();
        System.arraycopy(depths, 0, gone.depths, 0, 14);
        List<List<String>> todo = new ArrayList<>();
        int[] places = new int[5];
        int[] due = new int[5];
        for (int k = 0; k < 5; k++) {
            todo.add(new ArrayList<>());
            if (rooms[k] > 0 && told(0) && !itsPlans[k].isEmpty()) {
                for (String stop : itsPlans[k].split(",")) {
                    int i = stop.charAt(0) == '+' ? 0 : stop.charAt(0) - 'a';
                    if (told(i) && wayBetween(0, i) >= 0) {
                        todo.get(k).add(stop);
                    }
                }
            }
            due[k] = todo.get(k).isEmpty() ? FAR : start + wayBetween(0, streetOf(todo.get(k).get(0)));
        }
        for (int minute = 0; minute < 600; minute++) {
            for (int k = 0; k < 5; k++) {
                while (due[k] == minute) {
                    String stop = todo.get(k).remove(0);
                    int i = streetOf(stop);
                    int yards = Integer.parseInt(stop.substring(1));
                    int u = ask('u', i, streets[i][1], gone.depths[i], minute / 60, k);
                    gone.totals[5]++;
                    places[k] = i;
                    if (stop.charAt(0) == '+') {
                        yards = Math.min(yards, rooms[k] - gone.loads[k]);
                        gone.loads[k] += yards;
                    } else {
                        yards = Math.min(yards, gone.loads[k]);
                        gone.loads[k] -= yards;
                        gone.totals[4] += yards;
                        gone.depths[i] = Math.min(999, gone.depths[i] + yards);
                    }
                    if (todo.get(k).isEmpty()) {
                        gone.lasts[k] = minute;
                        due[k] = FAR;
                    } else {
                        due[k] = minute + u * yards + wayBetween(i, streetOf(todo.get(k).get(0)));
                    }
                }
            }
            if (minute % 60 == 59) {
                endHour(gone, minute / 60);
            }
        }
        gone.totals[1] = Arrays.stream(gone.depths).sum();
        return gone;
    }

    private static int streetOf(String stop) {
        return stop.charAt(0) == '+' ? 0 : stop.charAt(0) - 'a';
    }

    private void endHour(Gone gone, int hour) {
        for (int i = 0; i < 14; i++) {
            if (told(i)) {
                int before = gone.depths[i];
                gone.depths[i] = Math.max(0, before - ask('w', i, streets[i][1], before, hour, 0));
                gone.totals[2] += before - gone.depths[i];
                before = gone.depths[i];
                gone.depths[i] = Math.max(0, before - ask('c', i, streets[i][1], before, hour, 0));
                gone.totals[3] += before - gone.depths[i];
                int now = gone.depths[i];
                if (now > 0 && now >= ask('s', i, streets[i][1], now, hour, 0)) {
                    gone.totals[0] += streets[i][0];
                }
            }
        }
    }

    int nights(int n) {
        if (n < 1 || n > 20) {
            return -1;
        }
        int hours = 0;
        for (int turn = 0; turn < n; turn++) {
            if (night < 9999) {
                Gone gone = goThrough(plans, 0);
                hours += gone.totals[0];
                slept += gone.totals[0];
                swept += gone.totals[1];
                depths = new int[14];
                night++;
            }
        }
        return hours;
    }

    private boolean toldCart(int k) {
        return k >= 0 && k <= 4 && rooms[k] > 0;
    }

    int tried(int what) {
        if (night == 9999) {
            return -1;
        }
        Gone gone = goThrough(plans, 0);
        if (what >= 0 && what <= 5) {
            return gone.totals[what];
        }
        if (what >= 10 && told(what - 10)) {
            return gone.depths[what - 10];
        }
        if (what >= 30 && toldCart(what - 30)) {
            return gone.loads[what - 30];
        }
        return what >= 40 && toldCart(what - 40) ? gone.lasts[what - 40] : -1;
    }

    int way(int i, int j) {
        return told(i) && told(j) ? wayBetween(i, j) : -1;
    }

    private List<Integer> listed(int bits, int most) {
        List<Integer> list = new ArrayList<>();
        for (int i = 0; i < 32; i++) {
            if ((bits >>> i) % 2 != 0) {
                if (!told(i)) {
                    return null;
                }
                list.add(i);
            }
        }
        return list.isEmpty() || list.size() > most ? null : list;
    }

    private static List<List<Integer>> orders(List<Integer> of) {
        List<List<Integer>> all = new ArrayList<>();
        if (of.isEmpty()) {
            all.add(new ArrayList<>());
        }
        for (Integer first : of) {
            List<Integer> others = new ArrayList<>(of);
            others.remove(first);
            for (List<Integer> order : orders(others)) {
                order.add(0, first);
                all.add(order);
            }
        }
        return all;
    }

    int round(int i, int others, int what) {
        List<Integer> list = listed(others, 7);
        if (!told(i) || list == null || list.contains(i) || (what != 20 && (what < 0 || what >= list.size()))) {
            return -1;
        }
        int[][] ways = new int[14][14];
        for (int a = 0; a < 14; a++) {
            for (int b = 0; b < 14; b++) {
                ways[a][b] = list.contains(a) || a == i ? wayBetween(a, b) : -2;
            }
        }
        for (int other : list) {
            if (ways[i][other] < 0) {
                return -2;
            }
        }
        int least = FAR;
        List<Integer> best = list;
        for (List<Integer> order : orders(list)) {
            int minutes = 0;
            int at = i;
            for (int next : order) {
                minutes += ways[at][next];
                at = next;
            }
            minutes += ways[at][i];
            if (minutes < least) {
                least = minutes;
                best = order;
            }
        }
        return what == 20 ? least : best.get(what);
    }

    /** All yards are given one by one to a lowest street; what none of that order asks for is then moved behind. */
    int share(int yards, int bits, int what) {
        List<Integer> list = listed(bits, 6);
        if (yards < 0 || yards > 600 || list == null || (what != 20 && !list.contains(what))) {
            return -1;
        }
        int[] then = depths.clone();
        for (int yard = 0; yard < yards; yard++) {
            int low = list.get(0);
            for (int i : list) {
                low = then[i] < then[low] ? i : low;
            }
            if (then[low] == 999) {
                return -2;
            }
            then[low]++;
        }
        int least = 999;
        for (int i : list) {
            least = Math.min(least, then[i]);
        }
        for (int p = 0; p < list.size(); p++) {
            for (int q = list.size() - 1; q > p; q--) {
                int a = list.get(p);
                int b = list.get(q);
                while (then[a] > depths[a] && then[a] > least && then[b] < 999) {
                    then[a]--;
                    then[b]++;
                }
            }
        }
        return what == 20 ? least : then[what] - depths[what];
    }

    int sleepful(int yards, int bits, int what) {
        List<Integer> list = listed(bits, 8);
        if (yards < 0 || yards > 300 || list == null || what < 0 || what > 2) {
            return -1;
        }
        int[] best = null;
        for (int set = 0; set < 1 << 14; set++) {
            if ((set & ~bits) != 0) {
                continue;
            }
            int[] its = {0, 0, set};
            boolean fits = true;
            for (int i : list) {
                int s = ask('s', i, streets[i][1], depths[i], 0, 0);
                boolean canNow = depths[i] > 0 && depths[i] >= s;
                if ((set >> i) % 2 == 1) {
                    its[0] += streets[i][0];
                    its[1] += canNow ? 0 : Math.max(s, 1) - depths[i];
                } else if (canNow) {
                    fits = false;
                }
            }
            if (fits && its[1] <= yards
                    && (best == null || its[0] > best[0] || (its[0] == best[0] && its[1] < best[1]))) {
                best = its;
            }
        }
        return best[what];
    }

    int pitAt(int what) {
        if (what < 0 || what > 3) {
            return -1;
        }
        List<int[]> rows = new ArrayList<>();
        for (int i = 0; i < 14; i++) {
            if (told(i)) {
                int[] row = {i, 0, 0, 0};
                for (int j = 0; j < 14; j++) {
                    if (told(j) && j != i && wayBetween(i, j) >= 0) {
                        row[1] = Math.max(row[1], wayBetween(i, j));
                        row[2]--;
                        row[3] += wayBetween(i, j);
                    }
                }
                rows.add(row);
            }
        }
        if (rows.isEmpty()) {
            return -2;
        }
        int by = what < 2 ? 1 : 3;
        rows.sort((a, b) -> a[2] != b[2] ? a[2] - b[2] : a[by] != b[by] ? a[by] - b[by] : a[0] - b[0]);
        return what % 2 == 0 ? rows.get(0)[0] : rows.get(0)[by];
    }

    int cut(int what) {
        if (what < 0 || what > 2) {
            return -1;
        }
        List<Integer> cuts = new ArrayList<>();
        for (int pair : new ArrayList<>(roads.keySet())) {
            int minutes = roads.remove(pair);
            if (wayBetween(pair / 14, pair % 14) < 0) {
                cuts.add(pair);
            }
            roads.put(pair, minutes);
        }
        if (what == 0) {
            return cuts.size();
        }
        return cuts.isEmpty() ? -2 : what == 1 ? cuts.get(0) / 14 : cuts.get(0) % 14;
    }

    int strike(int minute) {
        return minute < 0 || minute > 600 || night == 9999 ? -1 : goThrough(plans, minute).totals[0];
    }

    int enough(int i) {
        if (!told(i)) {
            return -1;
        }
        for (int yards = 0; depths[i] + yards <= 999; yards++) {
            int depth = depths[i] + yards;
            int hours = 0;
            for (int hour = 0; hour < 10; hour++) {
                depth = Math.max(0, depth - ask('w', i, streets[i][1], depth, hour, 0));
                depth = Math.max(0, depth - ask('c', i, streets[i][1], depth, hour, 0));
                hours += depth > 0 && depth >= ask('s', i, streets[i][1], depth, hour, 0) ? 1 : 0;
                if (hours <= hour) {
                    break;
                }
            }
            if (hours == 10) {
                return yards;
            }
        }
        return -2;
    }

    int oneStop(int k, int yards, int what) {
        if (!toldCart(k) || yards < 1 || yards > 99 || what < 0 || what > 1 || night == 9999) {
            return -1;
        }
        int[] best = {-2, -2};
        for (int i = 13; i >= 0; i--) {
            if (told(i)) {
                String[] alone = {"", "", "", "", ""};
                alone[k] = "+" + yards + "," + (char) ('a' + i) + yards;
                int hours = goThrough(alone, 0).totals[0];
                if (hours >= best[1]) {
                    best = new int[] {i, hours};
                }
            }
        }
        return best[what];
    }

    int out(int many, int what) {
        int told = count(3);
        if (many < 1 || many > 5 || many > Integer.bitCount(told) || what < 0 || what > 1) {
            return -1;
        }
        int[] gains = new int[14];
        for (int i = 0; i < 14; i++) {
            for (int hour = 0; hour < 10 && told(i); hour++) {
                gains[i] += ask('w', i, streets[i][1], depths[i], hour, 0) - ask('w', i, 0, depths[i], hour, 0);
            }
        }
        int[] best = null;
        for (int set = 0; set < 1 << 14; set++) {
            if ((set & ~told) == 0 && Integer.bitCount(set) == many) {
                int less = 0;
                for (int i = 0; i < 14; i++) {
                    less += (set >> i) % 2 * gains[i];
                }
                if (best == null || less > best[0]) {
                    best = new int[] {less, set};
                }
            }
        }
        return best[what];
    }

    int jobs(int n, int carts, int what) {
        List<Integer> bytes = cutTape(n, n >= 1 && n <= 8);
        if (bytes == null) {
            return -1;
        }
        if (carts < 1 || carts > 3 || (what != 10 && (what < 0 || what >= n))) {
            return -4;
        }
        int least = FAR;
        String best = "";
        for (int number = 0; number < Math.pow(carts, n); number++) {
            String row = "0".repeat(8) + (carts == 1 ? "" : Integer.toString(number, carts));
            row = row.substring(row.length() - n);
            int[] sums = new int[carts];
            for (int job = 0; job < n; job++) {
                sums[row.charAt(job) - '0'] += bytes.get(job);
            }
            int longest = Arrays.stream(sums).max().getAsInt();
            if (longest < least) {
                least = longest;
                best = row;
            }
        }
        return what == 10 ? least : best.charAt(what) - '0';
    }

    int load(int n, int yards, int what) {
        List<Integer> bytes = cutTape(2 * n, n >= 1 && n <= 8 && yards >= 0 && yards <= 999 && what >= 0 && what < 2);
        if (bytes == null) {
            return -1;
        }
        int[] best = {-2, -2};
        for (int set = (1 << n) - 1; set >= 0; set--) {
            int its = 0;
            int stars = 0;
            for (int p = 0; p < n; p++) {
                its += (set >> p) % 2 * bytes.get(2 * p);
                stars += (set >> p) % 2 * bytes.get(2 * p + 1);
            }
            if (its == yards && stars >= best[0]) {
                best = new int[] {stars, set};
            }
        }
        return best[what];
    }

    int brides(int n, int what) {
        List<Integer> bytes = cutTape(2 * n, n >= 1 && n <= 6);
        if (bytes == null) {
            return -1;
        }
        List<Integer> places = new ArrayList<>();
        for (int p = 0; p < n; p++) {
            int i = bytes.get(n + p);
            if (!told(i) || bytes.subList(n, n + p).contains(i)) {
                return -2;
            }
            places.add(p);
        }
        if (what != 10 && (what < 0 || what >= n)) {
            return -4;
        }
        int least = FAR;
        List<Integer> best = places;
        for (List<Integer> order : orders(places)) {
            int missing = 0;
            for (int p = 0; p < n; p++) {
                missing += Math.max(0, bytes.get(p) - streets[bytes.get(n + order.get(p))][2]);
            }
            if (missing < least) {
                least = missing;
                best = order;
            }
        }
        return what == 10 ? least : bytes.get(n + best.get(what));
    }

    int thieves(int n, int missing, int what) {
        boolean fits = n >= 1 && n <= 10 && missing >= 0 && missing <= 2550 && what >= 0 && what <= 2;
        List<Integer> bytes = cutTape(n, fits);
        if (bytes == null) {
            return -1;
        }
        List<Integer> sets = new ArrayList<>();
        for (int set = 0; set < 1 << n; set++) {
            int sum = 0;
            for (int p = 0; p < n; p++) {
                sum += (set >> p) % 2 * bytes.get(p);
            }
            if (sum == missing) {
                sets.add(set);
            }
        }
        if (what == 0) {
            return sets.size();
        }
        return sets.isEmpty() ? -2 : what == 1 ? sets.get(0) : sets.stream().reduce((a, b) -> a & b).get();
    }

    int latest(int n) {
        List<Integer> bytes = cutTape(3 * n, n >= 1 && n <= 6);
        if (bytes == null) {
            return -1;
        }
        for (int p = 0; p < n; p++) {
            if (!told(bytes.get(3 * p))) {
                return -3;
            }
        }
        for (int start = bytes.get(1) * 256 + bytes.get(2); start >= 0; start--) {
            int at = 0;
            int minute = start;
            boolean comes = true;
            for (int p = 0; p < n && comes; p++) {
                int way = wayBetween(at, bytes.get(3 * p));
                at = bytes.get(3 * p);
                minute += way;
                comes = way >= 0 && minute <= bytes.get(3 * p + 1) * 256 + bytes.get(3 * p + 2);
            }
            if (comes) {
                return start;
            }
        }
        return -2;
    }

    int keep() {
        kept = Arrays.copyOf(depths, 17);
        kept[14] = night;
        kept[15] = slept;
        kept[16] = swept;
        return Arrays.stream(depths).sum();
    }

    boolean undo() {
        if (kept == null) {
            return false;
        }
        depths = Arrays.copyOf(kept, 14);
        night = kept[14];
        slept = kept[15];
        swept = kept[16];
        return true;
    }

    int check(int n) {
        List<Integer> bytes = cutTape(2 * n, n >= 0 && n <= 14);
        if (bytes == null) {
            return -2;
        }
        for (int i = 0; i < n; i++) {
            if (bytes.get(2 * i) * 256 + bytes.get(2 * i + 1) != depths[i]) {
                return i;
            }
        }
        return -1;
    }

    int count(int what) {
        int toldStreets = 0;
        int toldCarts = 0;
        for (int i = 0; i < 14; i++) {
            toldStreets += told(i) ? 1 << i : 0;
            toldCarts += toldCart(i) ? 1 << i : 0;
        }
        int clauses = law.isEmpty() ? 0 : law.split(";").length;
        int[] first = {night, slept, swept, toldStreets, toldCarts, clauses, tape.size(), roads.size()};
        if (what >= 0 && what < 8) {
            return first[what];
        }
        for (int i = 0; i < 14; i++) {
            if (told(i)) {
                for (int row = 0; row < 3; row++) {
                    if (what == 10 + 20 * row + i) {
                        return streets[i][row];
                    }
                }
                if (what == 70 + i) {
                    return depths[i];
                }
            }
        }
        for (int k = 0; k < 5; k++) {
            if (what == 90 + k && toldCart(k)) {
                return rooms[k];
            }
            if (what == 100 + k) {
                return plans[k].isEmpty() ? 0 : plans[k].split(",").length;
            }
        }
        return -1;
    }
}
