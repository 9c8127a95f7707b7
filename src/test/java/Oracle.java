import java.util.ArrayList;
import java.util.HashMap;
import java.util.List;
import java.util.Map;
import java.util.TreeMap;

/** The document once more, slow and plain and by other ways than the class: RandomRunsTest compares the two. */
final class Oracle {
    /** A person, or null where none is told. */
    static final class Someone {
        int side, town, creaks;
        Integer wed;
        boolean dead;
        final TreeMap<Integer, Boolean> tried = new TreeMap<>();
        List<Integer> way = new ArrayList<>();
        int gone;

        Someone copy() {
            Someone s = new Someone();
            s.side = side;
            s.town = town;
            s.creaks = creaks;
            s.wed = wed;
            s.dead = dead;
            s.tried.putAll(tried);
            s.way = new ArrayList<>(way);
            s.gone = gone;
            return s;
        }
    }

    static final class World {
        Someone[] people = new Someone[12];
        int[][] edges = new int[12][8];
        int[] wear = new int[12];
        Integer[] holder = new Integer[12];
        int day;
        int x = 1;

        World() {
            for (int k = 0; k < 12; k++) holder[k] = k;
        }

        World copy() {
            World w = new World();
            for (int k = 0; k < 12; k++) {
                w.people[k] = people[k] == null ? null : people[k].copy();
                w.edges[k] = edges[k].clone();
            }
            w.wear = wear.clone();
            w.holder = holder.clone();
            w.day = day;
            w.x = x;
            return w;
        }
    }

    static final class Fault extends RuntimeException {
        final int answer;

        Fault(int number, int place) {
            super(null, null, false, false);
            answer = -1000 * number - place;
        }
    }

    static final class Refused extends RuntimeException {
        Refused() {
            super(null, null, false, false);
        }
    }

    World now = new World();
    World kept;
    List<Integer> tape = new ArrayList<>();
    String law = "";
    int clauses;
    int weddings, tryings, partings;

    // ---- telling

    boolean person(int i, int side, int town) {
        if (i < 0 || i > 11 || now.people[i] != null || side != 0 && side != 1 || town < 0 || town > 5) return false;
        Someone s = new Someone();
        s.side = side;
        s.town = town;
        now.people[i] = s;
        return true;
    }

    boolean wear(int k, int n) {
        if (k < 0 || k > 11 || n < 0 || n > 99) return false;
        now.wear[k] = n;
        return true;
    }

    Someone told(World w, int i) {
        return i < 0 || i > 11 ? null : w.people[i];
    }

    boolean alive(World w, int i) {
        return told(w, i) != null && !w.people[i].dead;
    }

    boolean dies(int i) {
        if (!alive(now, i)) return false;
        Integer widow = now.people[i].wed;
        for (int k = 0; k < 12; k++) {
            if (now.holder[k] != null && now.holder[k] == i) now.holder[k] = widow;
        }
        if (widow != null) now.people[widow].wed = null;
        now.people[i].wed = null;
        now.people[i].dead = true;
        return true;
    }

    boolean weds(int i, int j) {
        if (!alive(now, i) || !alive(now, j)) return false;
        Someone a = now.people[i], b = now.people[j];
        if (a.side != 0 || b.side != 1 || a.wed != null || b.wed != null) return false;
        wed(now, i, j);
        return true;
    }

    void wed(World w, int i, int j) {
        w.people[i].wed = j;
        w.people[j].wed = i;
        w.people[i].creaks = 0;
        w.people[j].creaks = 0;
    }

    int feed(int a, int b, int c, int d, int e) {
        if (tape.size() > 240) return -1;
        for (int word : new int[] {a, b, c, d, e}) {
            tape.add(word >> 24 & 255);
            tape.add(word >> 16 & 255);
            tape.add(word >> 8 & 255);
            tape.add(word & 255);
        }
        return tape.size();
    }

    String take(int n) {
        StringBuilder s = new StringBuilder();
        for (int p = 0; p < n; p++) s.append((char) (int) tape.get(p));
        tape.clear();
        return s.toString();
    }

    // ---- texts

    int law(int n) {
        if (n < 1 || n > 240 || n > tape.size()) return -1;
        String text = take(n);
        try {
            clauses = new LawText(text, null).whole();
        } catch (Fault f) {
            return f.answer;
        }
        law = text;
        return clauses;
    }

    int edge(int k, int n) {
        if (k < 0 || k > 11 || n < 1 || n > 40 || n > tape.size()) return -1;
        String text = take(n);
        List<Integer> heights = new ArrayList<>();
        int at = 0;
        while (true) {
            int first = at;
            int sign = 1;
            if (at < n && text.charAt(at) == '-') {
                sign = -1;
                at++;
            }
            if (at == n || !Character.isDigit(text.charAt(at)) || sign < 0 && text.charAt(at) == '0') return -1000 - at;
            int value = sign * (text.charAt(at++) - '0');
            int times = 1;
            if (at < n && text.charAt(at) == '*') {
                at++;
                if (at == n || "2345678".indexOf(text.charAt(at)) < 0) return -1000 - at;
                times = text.charAt(at++) - '0';
            }
            for (int t = 0; t < times; t++) heights.add(value);
            if (heights.size() > 8) return -6000 - first;
            if (at == n) {
                if (heights.size() < 8) return -1000 - at;
                break;
            }
            if (text.charAt(at) != ',') return -1000 - at;
            at++;
        }
        int sum = 0;
        for (int h = 0; h < 8; h++) {
            now.edges[k][h] = heights.get(h);
            sum += Math.abs(heights.get(h));
        }
        return sum;
    }

    int journey(int i, int n) {
        if (told(now, i) == null || n < 1 || n > 40 || n > tape.size()) return -1;
        String text = take(n);
        List<Integer> way = new ArrayList<>();
        int stops = 0;
        int at = 0;
        while (true) {
            if (at == n || !Character.isDigit(text.charAt(at))) return -1000 - at;
            if (++stops > 16) return -4000 - at;
            if (text.charAt(at) > '5') return -3000 - at;
            int town = text.charAt(at++) - '0';
            int times = 1;
            if (at < n && text.charAt(at) == '*') {
                at++;
                if (at == n || "23456789".indexOf(text.charAt(at)) < 0) return -1000 - at;
                times = text.charAt(at++) - '0';
            }
            for (int t = 0; t < times; t++) way.add(town);
            if (at == n) break;
            if (text.charAt(at) != ',') return -1000 - at;
            at++;
        }
        now.people[i].way = way;
        now.people[i].gone = 0;
        return way.size();
    }

    /** Reads a law; with letters it also reckons, and skips what does not matter. */
    static final class LawText {
        final String text;
        final int[] letters;
        int at;

        LawText(String text, int[] letters) {
            this.text = text;
            this.letters = letters;
        }

        char peek() {
            return at < text.length() ? text.charAt(at) : (char) 1000;
        }

        Fault fault(int number) {
            return new Fault(number, at);
        }

        int whole() {
            int count = 0;
            while (true) {
                if ("flwcb".indexOf(peek()) < 0) throw fault(1);
                if (++count > 16) throw fault(4);
                at++;
                sum(0, false);
                need('(');
                either(1, false);
                need(')');
                if (at == text.length()) return count;
                need(';');
            }
        }

        /** The E of the first clause of a letter whose C holds. */
        int ask(char letter, int top) {
            while (at < text.length()) {
                char of = peek();
                at++;
                int from = at;
                sum(0, false);
                need('(');
                if (of == letter && holds()) {
                    int back = at;
                    at = from;
                    int value;
                    try {
                        value = sum(0, true);
                    } catch (Refused r) {
                        value = 0;
                    }
                    at = back;
                    return value < 0 ? 0 : value > top ? top : value;
                }
                if (of != letter) either(1, false);
                need(')');
                if (at < text.length()) need(';');
            }
            return 0;
        }

        /** Whether the C from here on holds; it stands behind it then. */
        boolean holds() {
            int from = at;
            either(1, false);
            int behind = at;
            at = from;
            boolean yes;
            try {
                yes = either(1, true);
            } catch (Refused r) {
                yes = false;
            }
            at = behind;
            return yes;
        }

        void need(char c) {
            if (peek() != c) throw fault(1);
            at++;
        }

        void opens(int open) {
            if (open == 6) throw fault(5);
            at++;
        }

        boolean either(int open, boolean asked) {
            boolean yes = both(open, asked);
            while (peek() == '|') {
                at++;
                yes |= both(open, asked && !yes);
            }
            return yes && asked;
        }

        boolean both(int open, boolean asked) {
            boolean yes = test(open, asked);
            while (peek() == '&') {
                at++;
                boolean next = test(open, asked && yes);
                yes = yes && next;
            }
            return yes && asked;
        }

        boolean test(int open, boolean asked) {
            if (peek() == '!') {
                opens(open);
                return !test(open + 1, asked) && asked;
            }
            if (peek() == '(') {
                opens(open);
                boolean yes = either(open + 1, asked);
                need(')');
                return yes;
            }
            int left = sum(open, asked);
            char op = peek();
            if ("<>=".indexOf(op) < 0) throw fault(1);
            at++;
            int right = sum(open, asked);
            return asked && (op == '<' ? left < right : op == '>' ? left > right : left == right);
        }

        int sum(int open, boolean asked) {
            int value = product(open, asked);
            while (peek() == '+' || peek() == '-') {
                char op = text.charAt(at++);
                int next = product(open, asked);
                value = op == '+' ? value + next : value - next;
            }
            return value;
        }

        int product(int open, boolean asked) {
            int value = factor(open, asked);
            while (peek() == '*' || peek() == '/' || peek() == '%') {
                char op = text.charAt(at++);
                int next = factor(open, asked);
                if (!asked) continue;
                if (next == 0 && op != '*') throw new Refused();
                value = op == '*' ? value * next : op == '/' ? value / next : value % next;
            }
            return value;
        }

        int factor(int open, boolean asked) {
            if (peek() == '[') {
                opens(open);
                int value = sum(open + 1, asked);
                need(']');
                return value;
            }
            if (peek() >= '0' && peek() <= '9') {
                int digits = 0;
                int value = 0;
                while (peek() >= '0' && peek() <= '9') {
                    if (++digits == 6) throw fault(2);
                    value = 10 * value + peek() - '0';
                    at++;
                }
                return value;
            }
            int place = "ijsxyuvdapq".indexOf(peek());
            if (place < 0) throw fault(1);
            at++;
            return asked ? letters[place] : 0;
        }
    }

    int rule(World w, char letter, int i, int j, int s) {
        Someone a = w.people[i], b = w.people[j];
        int[] letters = {i, j, s, pieces(w, i).size(), pieces(w, j).size(), a.town, b.town, w.day, a.creaks, a.side, b.side};
        return new LawText(law, letters).ask(letter, letter == 'w' ? 9 : letter == 'c' ? 10 : 99);
    }

    // ---- slack and fitting

    List<Integer> pieces(World w, int i) {
        List<Integer> list = new ArrayList<>();
        for (int k = 0; k < 12; k++) {
            if (w.holder[k] != null && w.holder[k] == i) list.add(k);
        }
        return list;
    }

    static int rawSlack(int[] one, int[] other) {
        int sum = 0;
        for (int k = 0; k <= 7; k++) sum += Math.abs(one[k] + other[7 - k]);
        return sum;
    }

    int pieceSlack(World w, int p, int q) {
        return Math.max(0, rawSlack(w.edges[p], w.edges[q]) - w.wear[p] - w.wear[q]);
    }

    /** Null where one holds no piece. */
    Integer peopleSlack(World w, int i, int j) {
        Integer least = null;
        for (int p : pieces(w, i)) {
            for (int q : pieces(w, j)) {
                int s = pieceSlack(w, p, q);
                if (least == null || s < least) least = s;
            }
        }
        return least;
    }

    int slackOr0(World w, int i, int j) {
        Integer s = peopleSlack(w, i, j);
        return s == null ? 0 : s;
    }

    boolean firstOf(World w, int i, int j) {
        int a = w.people[i].side * 100 + i;
        int b = w.people[j].side * 100 + j;
        return a < b;
    }

    int allowed(World w, int i, int j) {
        return firstOf(w, i, j) ? rule(w, 'f', i, j, 0) : rule(w, 'f', j, i, 0);
    }

    boolean fits(World w, int i, int j) {
        Integer s = peopleSlack(w, i, j);
        return s != null && s <= allowed(w, i, j);
    }

    int likes(World w, int i, int j) {
        return rule(w, 'l', i, j, slackOr0(w, i, j));
    }

    int wears(World w, int i, int j) {
        boolean order = firstOf(w, i, j);
        if (w.people[i].wed != null && w.people[i].wed == j) order = i < j;
        return order ? rule(w, 'w', i, j, slackOr0(w, i, j)) : rule(w, 'w', j, i, slackOr0(w, i, j));
    }

    // ---- days

    void pass(World w, int n) {
        weddings = 0;
        tryings = 0;
        partings = 0;
        for (int t = 0; t < n; t++) {
            if (w.day == 9999) return;
            oneDay(w);
        }
    }

    void oneDay(World w) {
        for (Someone s : w.people) {
            if (s != null && !s.dead && s.wed == null && s.gone < s.way.size()) s.town = s.way.get(s.gone++);
        }
        for (int town = 0; town < 6; town++) {
            for (int i = 0; i < 12; i++) {
                if (!single(w, i, 0, town)) continue;
                for (int j = 0; j < 12; j++) {
                    if (single(w, j, 1, town) && !w.people[i].tried.containsKey(j)) {
                        tryOne(w, i, j);
                        break;
                    }
                }
            }
        }
        for (int i = 0; i < 12; i++) {
            Someone a = w.people[i];
            if (a == null || a.wed == null || a.wed < i) continue;
            int j = a.wed;
            Someone b = w.people[j];
            w.x = (int) ((25173L * w.x + 13849) % 65536);
            if (w.x % 10 < rule(w, 'c', i, j, slackOr0(w, i, j))) {
                a.creaks = Math.min(99, a.creaks + 1);
                b.creaks = Math.min(99, b.creaks + 1);
            }
            if (a.creaks > rule(w, 'b', i, j, slackOr0(w, i, j))) {
                a.wed = null;
                b.wed = null;
                a.tried.put(j, true);
                b.tried.put(i, true);
                partings++;
            }
        }
        w.day++;
    }

    boolean single(World w, int i, int side, int town) {
        Someone s = w.people[i];
        return s != null && !s.dead && s.wed == null && s.side == side && s.town == town;
    }

    void tryOne(World w, int i, int j) {
        tryings++;
        if (fits(w, i, j)) {
            wed(w, i, j);
            weddings++;
        } else {
            int by = wears(w, i, j);
            for (int k : pieces(w, i)) w.wear[k] = Math.min(99, w.wear[k] + by);
            for (int k : pieces(w, j)) w.wear[k] = Math.min(99, w.wear[k] + by);
        }
        w.people[i].tried.put(j, true);
        w.people[j].tried.put(i, true);
    }

    int days(int n) {
        if (n < 1 || n > 60) return -1;
        pass(now, n);
        return weddings;
    }

    int tried(int n, int what) {
        boolean person = what >= 10 && what <= 21 && told(now, what - 10) != null;
        boolean piece = what >= 30 && what <= 41;
        if (n < 1 || n > 60 || !(person || piece || what >= 0 && what <= 3)) return -1;
        World w = now.copy();
        pass(w, n);
        if (person) return w.people[what - 10].wed == null ? -2 : w.people[what - 10].wed;
        if (piece) return w.wear[what - 30];
        return new int[] {weddings, tryings, partings, twos(w)}[what];
    }

    int twos(World w) {
        int wed = 0;
        for (Someone s : w.people) wed += s != null && s.wed != null ? 1 : 0;
        return wed / 2;
    }

    // ---- asking

    int personIs(int i, int what) {
        Someone s = told(now, i);
        if (s == null) return -1;
        int bits = 0;
        switch (what) {
            case 0: return s.side;
            case 1: return s.town;
            case 2: return s.wed == null ? -2 : s.wed;
            case 3: return s.creaks;
            case 4: return s.dead ? 0 : 1;
            case 5:
                for (int k : pieces(now, i)) bits += 1 << k;
                return bits;
            case 6:
                for (int j = 0; j < 12; j++) {
                    if (alive(now, j) && j != i && fits(now, i, j)) bits += 1 << j;
                }
                return bits;
            case 7: return s.way.size() - s.gone;
            case 8:
                for (int j : s.tried.keySet()) bits += 1 << j;
                return bits;
            default: return -1;
        }
    }

    int piece(int k, int h) {
        if (k < 0 || k > 11 || h < 0 || h > 9) return -100;
        if (h < 8) return now.edges[k][h];
        if (h == 8) return now.wear[k];
        return now.holder[k] == null || !alive(now, now.holder[k]) ? -2 : now.holder[k];
    }

    int slack(int i, int j, int what) {
        if (told(now, i) == null || told(now, j) == null || i == j || what < 0 || what > 2) return -1;
        if (pieces(now, i).isEmpty() || pieces(now, j).isEmpty()) return -1;
        if (what == 0) return peopleSlack(now, i, j);
        return what == 1 ? fits(now, i, j) ? 1 : 0 : likes(now, i, j);
    }

    int locks(int what) {
        if (what < 0 || what > 3) return -1;
        List<int[]> threes = new ArrayList<>();
        boolean[][] fit = new boolean[12][12];
        for (int i = 0; i < 12; i++) {
            for (int j = 0; j < 12; j++) fit[i][j] = i != j && alive(now, i) && alive(now, j) && fits(now, i, j);
        }
        for (int i = 0; i < 12; i++) {
            for (int j = i + 1; j < 12; j++) {
                for (int k = j + 1; k < 12; k++) {
                    if (fit[i][j] && fit[j][k] && fit[i][k]) threes.add(new int[] {i, j, k});
                }
            }
        }
        if (what == 0) return threes.size();
        return threes.isEmpty() ? -2 : threes.get(0)[what - 1];
    }

    // ---- matchings

    List<Integer> living(int side) {
        List<Integer> list = new ArrayList<>();
        for (int i = 0; i < 12; i++) {
            if (alive(now, i) && now.people[i].side == side) list.add(i);
        }
        return list;
    }

    int[] bestRow;
    int bestCount, bestSlack;

    void allRows(List<Integer> ones, List<Integer> others, int[][] cost, int p, int[] row, int taken, int count, int slack) {
        if (count + ones.size() - p < bestCount) return;
        if (p == ones.size()) {
            if (count > bestCount || count == bestCount && slack < bestSlack) {
                bestCount = count;
                bestSlack = slack;
                bestRow = row.clone();
            }
            return;
        }
        for (int j : others) {
            if ((taken >> j & 1) == 0 && cost[ones.get(p)][j] >= 0) {
                row[ones.get(p)] = j;
                allRows(ones, others, cost, p + 1, row, taken | 1 << j, count + 1, slack + cost[ones.get(p)][j]);
            }
        }
        row[ones.get(p)] = 12;
        allRows(ones, others, cost, p + 1, row, taken, count, slack);
    }

    int most(int what) {
        boolean person = alive(now, what) && now.people[what].side == 0;
        if (!person && what != 20 && what != 21) return -1;
        List<Integer> ones = living(0), others = living(1);
        int[][] cost = new int[12][12];
        for (int i : ones) {
            for (int j : others) cost[i][j] = fits(now, i, j) ? peopleSlack(now, i, j) : -1;
        }
        bestCount = -1;
        bestSlack = 0;
        bestRow = null;
        allRows(ones, others, cost, 0, new int[12], 0, 0, 0);
        if (what == 20) return bestCount;
        if (what == 21) return bestSlack;
        return bestRow[what] == 12 ? -2 : bestRow[what];
    }

    int stable(int what) {
        if (what != 20 && !alive(now, what)) return -1;
        Map<Integer, Integer> wedTo = new HashMap<>();
        Map<Integer, List<Integer>> wish = new HashMap<>();
        for (int i : living(0)) {
            List<Integer> list = new ArrayList<>();
            for (int j : living(1)) {
                if (fits(now, i, j) && likes(now, i, j) > 0) list.add(j);
            }
            list.sort((a, b) -> likes(now, i, b) != likes(now, i, a) ? likes(now, i, b) - likes(now, i, a) : a - b);
            wish.put(i, list);
        }
        for (int i : living(0)) {
            Integer asker = i;
            while (asker != null && !wish.get(asker).isEmpty()) {
                int j = wish.get(asker).remove(0);
                int like = likes(now, j, asker);
                Integer has = wedTo.get(j);
                if (like == 0) continue;
                boolean better = has == null || like > likes(now, j, has) || like == likes(now, j, has) && asker < has;
                if (better) {
                    wedTo.put(j, asker);
                    asker = has;
                }
            }
        }
        if (what == 20) return wedTo.size();
        if (now.people[what].side == 1) return wedTo.getOrDefault(what, -2);
        for (int j : wedTo.keySet()) {
            if (wedTo.get(j) == what) return j;
        }
        return -2;
    }

    int unrest(int what) {
        if (what < 0 || what > 2) return -1;
        int count = 0;
        int[] first = {-2, -2};
        for (int i : living(0)) {
            for (int j : living(1)) {
                Integer wi = now.people[i].wed, wj = now.people[j].wed;
                if (wi != null && wi == j || !fits(now, i, j)) continue;
                int li = wi == null ? 0 : likes(now, i, wi);
                int lj = wj == null ? 0 : likes(now, j, wj);
                if (likes(now, i, j) > li && likes(now, j, i) > lj && count++ == 0) first = new int[] {i, j};
            }
        }
        return what == 0 ? count : first[what - 1];
    }

    // ---- travel

    private long bestDays;
    private int[] bestOrder;

    void orders(List<Integer> order, int[] weight, int[][] travel, int n) {
        if (order.size() == n) {
            long days = 0, sum = 0;
            for (int p = 1; p < n; p++) {
                days += travel[order.get(p - 1)][order.get(p)];
                sum += weight[order.get(p)] * days;
            }
            if (bestDays < 0 || sum < bestDays) {
                bestDays = sum;
                bestOrder = order.stream().mapToInt(t -> t).toArray();
            }
            return;
        }
        for (int t = 0; t < n; t++) {
            if (!order.contains(t)) {
                List<Integer> longer = new ArrayList<>(order);
                longer.add(t);
                orders(longer, weight, travel, n);
            }
        }
    }

    int search(int n, int what) {
        if (n < 2 || n > 6 || tape.size() < n + n * n) return -1;
        String bytes = take(n + n * n);
        int[] weight = new int[n];
        int[][] travel = new int[n][n];
        int all = 0;
        for (int t = 0; t < n; t++) {
            weight[t] = bytes.charAt(t);
            all += weight[t];
            if (weight[t] > 99) return -2;
            for (int u = 0; u < n; u++) {
                travel[t][u] = bytes.charAt(n + n * t + u);
                if (t != u && (travel[t][u] < 1 || travel[t][u] > 20)) return -2;
            }
        }
        if (all == 0) return -2;
        bestDays = -1;
        orders(new ArrayList<>(List.of(0)), weight, travel, n);
        if (what >= 0 && what < n) return bestOrder[what];
        int divisor = 1;
        for (int d = 1; d <= all; d++) {
            if (all % d == 0 && bestDays % d == 0) divisor = d;
        }
        return what == 20 ? (int) bestDays / divisor : what == 21 ? all / divisor : -3;
    }

    // ---- pieces

    private final Map<Integer, Integer> memo = new HashMap<>();

    /** The least work from height h on; 9999 where it can't be. */
    int least(int[] k, int[] a, int roomA, int[] b, int roomB, int h) {
        if (roomA < 0 || roomB < 0) return 9999;
        if (h == 8) return 0;
        int key = (h * 300 + roomA) * 300 + roomB;
        Integer known = memo.get(key);
        if (known != null) return known;
        int best = 9999;
        for (int v = -9; v <= 9; v++) {
            int restB = b == null ? roomB : roomB - Math.abs(v + b[7 - h]);
            best = Math.min(best, Math.abs(v - k[h]) + least(k, a, roomA - Math.abs(v + a[7 - h]), b, restB, h + 1));
        }
        memo.put(key, best);
        return best;
    }

    int sanding(int k, int a, int byA, int b, int byB, int what, int more) {
        if (k < 0 || k > 11 || a < 0 || a > 11 || a == k || more < 0 || more > 99) return -1;
        if (!(what >= 0 && what < 8 || what == 10 || what == 11)) return -1;
        long togetherA = (long) byA + now.wear[k] + now.wear[a];
        if (byA < 0 || togetherA > 60) return -1;
        long togetherB = 0;
        if (b != -1) {
            if (b < 0 || b > 11 || b == a || b == k) return -1;
            togetherB = (long) byB + now.wear[k] + now.wear[b];
            if (byB < 0 || togetherB > 60) return -1;
        }
        memo.clear();
        int[] edgeB = b == -1 ? null : now.edges[b];
        int roomA = (int) togetherA, roomB = (int) togetherB;
        int work = least(now.edges[k], now.edges[a], roomA, edgeB, roomB, 0);
        if (work >= 9999) return -2;
        int[] made = new int[8];
        int left = work;
        for (int h = 0; h < 8; h++) {
            for (int v = -9; v <= 9; v++) {
                int restA = roomA - Math.abs(v + now.edges[a][7 - h]);
                int restB = edgeB == null ? roomB : roomB - Math.abs(v + edgeB[7 - h]);
                int change = Math.abs(v - now.edges[k][h]);
                if (change + least(now.edges[k], now.edges[a], restA, edgeB, restB, h + 1) == left) {
                    made[h] = v;
                    roomA = restA;
                    roomB = restB;
                    left -= change;
                    break;
                }
            }
        }
        if (what == 10) return work;
        if (what < 8) return made[what] + 10;
        int others = 0;
        for (int m = 0; m < 12; m++) {
            if (m != k && now.people[m] != null
                && Math.max(0, rawSlack(made, now.edges[m]) - now.wear[k] - now.wear[m]) <= more) others++;
        }
        return others;
    }

    int steaming(int k, int a, int by, int what) {
        if (k < 0 || k > 11 || a < 0 || a > 11 || a == k || by < 0 || by > 99 || what < 0 || what > 2) return -1;
        for (int doings = 0; doings <= 16; doings++) {
            for (int turns = 0; turns <= Math.min(7, doings); turns++) {
                for (int raising : new int[] {turns - doings, doings - turns}) {
                    if (Math.abs(raising) > 9) continue;
                    int[] made = now.edges[k].clone();
                    for (int t = 0; t < turns; t++) {
                        int first = made[0];
                        System.arraycopy(made, 1, made, 0, 7);
                        made[7] = first;
                    }
                    for (int h = 0; h < 8; h++) made[h] = Math.max(-9, Math.min(9, made[h] + raising));
                    if (Math.max(0, rawSlack(made, now.edges[a]) - now.wear[k] - now.wear[a]) <= by) {
                        return what == 0 ? doings : what == 1 ? turns : raising + 10;
                    }
                }
            }
        }
        return -2;
    }

    int worn(int i, int j) {
        if (!alive(now, i) || !alive(now, j) || now.people[i].side == now.people[j].side) return -1;
        int allowed = allowed(now, i, j);
        int by = wears(now, i, j);
        for (int tries = 0; tries < 500; tries++) {
            for (int p : pieces(now, i)) {
                for (int q : pieces(now, j)) {
                    int wear = Math.min(99, now.wear[p] + tries * by) + Math.min(99, now.wear[q] + tries * by);
                    if (Math.max(0, rawSlack(now.edges[p], now.edges[q]) - wear) <= allowed) return tries;
                }
            }
        }
        return -2;
    }

    static int[] cut(int[] from, int shift, int sign, int more) {
        int[] made = new int[8];
        for (int k = 0; k < 8; k++) made[(k + shift) % 8] = (sign == 0 ? from[k] : -from[k]) + more;
        return made;
    }

    int cutter(int n, int what) {
        if (n < 1 || n > 5 || tape.size() < 2 * n || !(what == 0 || what == 1 || what >= 10 && what <= 21)) return -1;
        String bytes = take(2 * n);
        for (int t = 0; t < n; t++) {
            char a = bytes.charAt(2 * t), b = bytes.charAt(2 * t + 1);
            if (a > 11 || b > 11 || a == b) return -3;
        }
        List<int[]> rules = new ArrayList<>();
        for (int shift = 0; shift < 8; shift++) {
            for (int sign = 0; sign < 2; sign++) {
                for (int more = -3; more <= 3; more++) {
                    boolean all = true;
                    for (int t = 0; t < n; t++) {
                        int[] made = cut(now.edges[bytes.charAt(2 * t)], shift, sign, more);
                        all &= java.util.Arrays.equals(made, now.edges[bytes.charAt(2 * t + 1)]);
                    }
                    if (all) rules.add(new int[] {shift, sign, more});
                }
            }
        }
        if (what == 0) return rules.size();
        if (rules.isEmpty()) return -2;
        int[] r = rules.get(0);
        if (what == 1) return 14 * r[0] + 7 * r[1] + r[2] + 3;
        int[] made = cut(now.edges[what - 10], r[0], r[1], r[2]);
        for (int m = 0; m < 12; m++) {
            if (java.util.Arrays.equals(made, now.edges[m])) return m;
        }
        return -2;
    }

    int copies(int what) {
        if (what < 0 || what > 3) return -1;
        int count = 0;
        int[] first = {-2, -2, -2};
        for (int i = 0; i < 12; i++) {
            for (int j = i + 1; j < 12; j++) {
                if (now.people[i] == null || now.people[j] == null) continue;
                if (!java.util.Arrays.equals(now.edges[i], now.edges[j])) continue;
                if (count++ == 0) first = new int[] {i, j, now.wear[i] < now.wear[j] ? i : j};
            }
        }
        return what == 0 ? count : first[what - 1];
    }

    int mate(int k, int h) {
        return k < 0 || k > 11 || h < 0 || h > 7 ? -1 : 10 - now.edges[k][7 - h];
    }

    // ---- the rest

    boolean seed(int x) {
        if (x < 0 || x > 65535) return false;
        now.x = x;
        return true;
    }

    int keep() {
        kept = now.copy();
        return twos(now);
    }

    boolean undo() {
        if (kept == null) return false;
        now = kept.copy();
        return true;
    }

    int check(int k, int n) {
        if (k < 0 || k > 11 || n < 0 || n > 8 || n > tape.size()) return -2;
        String bytes = take(n);
        for (int h = 0; h < n; h++) {
            if (bytes.charAt(h) - 9 != now.edges[k][h]) return h;
        }
        return -1;
    }

    int count(int what) {
        int bits = 0;
        for (int i = 0; i < 12; i++) {
            boolean in = what == 1 && told(now, i) != null || what == 2 && alive(now, i)
                || what >= 10 && what <= 15 && alive(now, i) && now.people[i].town == what - 10;
            if (in) bits += 1 << i;
        }
        switch (what) {
            case 0: return now.day;
            case 3: return twos(now);
            case 4: return clauses;
            case 5: return tape.size();
            case 6: return now.x;
            default: return what == 1 || what == 2 || what >= 10 && what <= 15 ? bits : -1;
        }
    }
}
