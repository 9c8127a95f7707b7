import java.util.Arrays;

/** People wedded by puzzle: what each call does and answers stands in ../shared/DOC.md. */
public final class PuzzleWed {
    public static final int NONE = -1;

    private static final int NOBODY = -2;
    private static final int CANNOT = -2;
    private static final int NO_PIECE = -100;
    private static final int PEOPLE = 12;
    private static final int HEIGHTS = 8;
    private static final int TOWNS = 6;
    private static final int HIGHEST = 9;
    private static final int MOST_WEAR = 99;
    private static final int MOST_CREAKS = 99;
    private static final int LAST_DAY = 9999;
    private static final int MOST_DAYS = 60;
    private static final int TAPE_ROOM = 260;
    private static final int LAW_TEXT = 240;
    private static final int SHORT_TEXT = 40;
    private static final int CLAUSES = 16;
    private static final int STOPS = 16;
    private static final int STAY = 9;
    private static final int WAY_ROOM = STOPS * STAY;
    private static final int MOST_OPEN = 6;
    private static final int DIGITS = 5;
    private static final int SAND_MOST = 60;
    private static final int RULE_MORE = 3;

    private final Land land;
    private final Land kept;
    private final Land trial;
    private boolean hasKept;
    private final Tape tape;
    private final Law law;
    private final Law draft;
    private final LawReader lawReader;
    private final ListReader listReader;
    private final Judge judge;
    private final Course course;
    private final Couples couples;
    private final Search quest;
    private final Sander sander;
    private final int[] row;

    public PuzzleWed() {
        land = new Land();
        kept = new Land();
        trial = new Land();
        hasKept = false;
        tape = new Tape();
        law = new Law();
        draft = new Law();
        lawReader = new LawReader(tape, draft);
        listReader = new ListReader(tape);
        judge = new Judge(law);
        course = new Course(judge);
        couples = new Couples(judge);
        quest = new Search(tape);
        sander = new Sander();
        row = new int[HEIGHTS];
    }

    // ---- people and pieces, as they are told

    public boolean person(int i, int side, int town) {
        if (!isNumber(i) || land.isTold(i) || side < 0 || side > 1 || town < 0 || town >= TOWNS) {
            return false;
        }
        land.told |= 1 << i;
        land.living |= 1 << i;
        land.side[i] = side;
        land.town[i] = town;
        return true;
    }

    public boolean wear(int k, int n) {
        if (!isNumber(k) || n < 0 || n > MOST_WEAR) {
            return false;
        }
        land.wear[k] = n;
        return true;
    }

    public boolean dies(int i) {
        if (!land.isAlive(i)) {
            return false;
        }
        land.bury(i);
        return true;
    }

    public boolean weds(int i, int j) {
        if (!land.isFree(i) || !land.isFree(j) || land.side[i] != 0 || land.side[j] != 1) {
            return false;
        }
        land.join(i, j);
        return true;
    }

    // ---- texts from the tape

    public int feed(int a, int b, int c, int d, int e) {
        if (tape.length + 20 > TAPE_ROOM) {
            return NONE;
        }
        tape.add(a);
        tape.add(b);
        tape.add(c);
        tape.add(d);
        tape.add(e);
        return tape.length;
    }

    public int law(int n) {
        if (n < 1 || n > LAW_TEXT || n > tape.length) {
            return NONE;
        }
        boolean right = lawReader.readLaw(n);
        tape.length = 0;
        if (!right) {
            return lawReader.fault;
        }
        law.copyFrom(draft);
        return law.clauses;
    }

    public int edge(int k, int n) {
        if (!isNumber(k) || n < 1 || n > SHORT_TEXT || n > tape.length) {
            return NONE;
        }
        boolean right = listReader.readEdge(n);
        tape.length = 0;
        if (!right) {
            return listReader.fault;
        }
        int sum = 0;
        for (int h = 0; h < HEIGHTS; h++) {
            land.height[k][h] = listReader.list[h];
            sum += Math.abs(listReader.list[h]);
        }
        return sum;
    }

    public int journey(int i, int n) {
        if (!land.isTold(i) || n < 1 || n > SHORT_TEXT || n > tape.length) {
            return NONE;
        }
        boolean right = listReader.readWay(n);
        tape.length = 0;
        if (!right) {
            return listReader.fault;
        }
        System.arraycopy(listReader.list, 0, land.way[i], 0, WAY_ROOM);
        land.wayLength[i] = listReader.filled;
        land.wayGone[i] = 0;
        return listReader.filled;
    }

    // ---- days

    public int days(int n) {
        if (n < 1 || n > MOST_DAYS) {
            return NONE;
        }
        course.pass(land, n);
        return course.wed;
    }

    public int tried(int n, int what) {
        boolean ofPerson = what >= 10 && what < 10 + PEOPLE && land.isTold(what - 10);
        boolean ofPiece = what >= 30 && what < 30 + PEOPLE;
        boolean ofAll = what >= 0 && what <= 3;
        if (n < 1 || n > MOST_DAYS || !ofPerson && !ofPiece && !ofAll) {
            return NONE;
        }
        trial.copyFrom(land);
        course.pass(trial, n);
        if (ofPerson) {
            return trial.wedTo[what - 10];
        }
        if (ofPiece) {
            return trial.wear[what - 30];
        }
        if (what == 0) {
            return course.wed;
        }
        if (what == 1) {
            return course.tries;
        }
        return what == 2 ? course.parted : trial.countTwos();
    }

    // ---- what is so now

    public int personIs(int i, int what) {
        if (!land.isTold(i)) {
            return NONE;
        }
        switch (what) {
            case 0: return land.side[i];
            case 1: return land.town[i];
            case 2: return land.wedTo[i];
            case 3: return land.creaks[i];
            case 4: return land.isAlive(i) ? 1 : 0;
            case 5: return land.piecesOf(i);
            case 6: return whomItFits(i);
            case 7: return land.wayLength[i] - land.wayGone[i];
            case 8: return land.triedBits[i];
            default: return NONE;
        }
    }

    private int whomItFits(int i) {
        int bits = 0;
        for (int j = 0; j < PEOPLE; j++) {
            if (j != i && land.isAlive(j) && judge.fit(land, i, j)) {
                bits |= 1 << j;
            }
        }
        return bits;
    }

    public int piece(int k, int h) {
        if (!isNumber(k) || h < 0 || h > 9) {
            return NO_PIECE;
        }
        if (h < HEIGHTS) {
            return land.height[k][h];
        }
        if (h == 8) {
            return land.wear[k];
        }
        return land.isAlive(land.holder[k]) ? land.holder[k] : NOBODY;
    }

    public int slack(int i, int j, int what) {
        if (!land.isTold(i) || !land.isTold(j) || i == j || what < 0 || what > 2) {
            return NONE;
        }
        int slack = judge.slackOf(land, i, j);
        if (slack < 0 || what == 0) {
            return slack;
        }
        if (what == 1) {
            return judge.fit(land, i, j) ? 1 : 0;
        }
        return judge.liking(land, i, j);
    }

    // ---- who fits whom

    public int locks(int what) {
        if (what < 0 || what > 3) {
            return NONE;
        }
        int threes = 0;
        int answer = NOBODY;
        for (int i = 0; i < PEOPLE; i++) {
            int ofI = fitsAbove(i);
            for (int j = i + 1; j < PEOPLE; j++) {
                if ((ofI >> j & 1) == 0) {
                    continue;
                }
                int both = ofI & fitsAbove(j);
                if (threes == 0 && both != 0) {
                    answer = what == 1 ? i : what == 2 ? j : lowestOf(both);
                }
                threes += Integer.bitCount(both);
            }
        }
        return what == 0 ? threes : answer;
    }

    private static int lowestOf(int bits) {
        for (int k = 0; k < PEOPLE; k++) {
            if ((bits >> k & 1) == 1) {
                return k;
            }
        }
        return NOBODY;
    }

    private int fitsAbove(int i) {
        if (!land.isAlive(i)) {
            return 0;
        }
        int bits = 0;
        for (int j = i + 1; j < PEOPLE; j++) {
            if (land.isAlive(j) && judge.fit(land, i, j)) {
                bits |= 1 << j;
            }
        }
        return bits;
    }

    public int most(int what) {
        boolean ofPerson = land.isAlive(what) && land.side[what] == 0;
        if (what != 20 && what != 21 && !ofPerson) {
            return NONE;
        }
        couples.findMost(land);
        if (what == 20) {
            return couples.twos;
        }
        if (what == 21) {
            return couples.slackSum;
        }
        return ofPerson ? couples.partner[what] : NONE;
    }

    public int stable(int what) {
        boolean ofPerson = land.isAlive(what);
        if (what != 20 && !ofPerson) {
            return NONE;
        }
        couples.findStable(land);
        return ofPerson ? couples.partner[what] : couples.twos;
    }

    public int unrest(int what) {
        if (what < 0 || what > 2) {
            return NONE;
        }
        int twos = 0;
        int answer = NOBODY;
        for (int i = 0; i < PEOPLE; i++) {
            for (int j = 0; j < PEOPLE; j++) {
                if (wouldLeave(i, j)) {
                    if (twos == 0) {
                        answer = what == 1 ? i : j;
                    }
                    twos++;
                }
            }
        }
        return what == 0 ? twos : answer;
    }

    private boolean wouldLeave(int i, int j) {
        if (!land.isAlive(i) || !land.isAlive(j) || land.side[i] != 0 || land.side[j] != 1) {
            return false;
        }
        return land.wedTo[i] != j && judge.fit(land, i, j)
            && judge.liking(land, i, j) > likingNow(i) && judge.liking(land, j, i) > likingNow(j);
    }

    private int likingNow(int i) {
        int j = isNumber(i) ? land.wedTo[i] : NOBODY;
        return land.isAlive(j) ? judge.liking(land, i, j) : 0;
    }

    // ---- travel

    public int search(int n, int what) {
        if (n < 2 || n > TOWNS || n + n * n > tape.length) {
            return NONE;
        }
        boolean right = quest.accept(n);
        tape.length = 0;
        if (!right) {
            return CANNOT;
        }
        boolean ofPlace = what >= 0 && what < n;
        if (what != 20 && what != 21 && !ofPlace) {
            return -3;
        }
        quest.find();
        if (ofPlace) {
            return quest.bestOrder[what];
        }
        return what == 20 ? quest.above() : quest.below();
    }

    // ---- pieces worked on

    public int sanding(int k, int a, int byA, int b, int byB, int what, int more) {
        boolean rightWhat = what >= 0 && what < HEIGHTS || what == 10 || what == 11;
        if (!rightWhat || more < 0 || more > MOST_WEAR || !canSand(k, a, byA)) {
            return NONE;
        }
        if (b != NONE && (b == a || !canSand(k, b, byB))) {
            return NONE;
        }
        int roomA = byA + land.wear[k] + land.wear[a];
        if (isNumber(b)) {
            int roomB = byB + land.wear[k] + land.wear[b];
            sander.sand(land.height[k], land.height[a], roomA, land.height[b], roomB);
        } else {
            sander.sand(land.height[k], land.height[a], roomA, null, 0);
        }
        if (!sander.done) {
            return CANNOT;
        }
        if (what == 10) {
            return sander.work;
        }
        return what == 11 ? fitOthers(k, sander.made, more) : sander.made[what] + 10;
    }

    private boolean canSand(int k, int a, int by) {
        if (!isNumber(k) || !isNumber(a) || k == a || by < 0 || by > SAND_MOST) {
            return false;
        }
        return by + land.wear[k] + land.wear[a] <= SAND_MOST;
    }

    private int fitOthers(int k, int[] heights, int more) {
        int count = 0;
        for (int m = 0; m < PEOPLE; m++) {
            if (m != k && land.isTold(m)) {
                int left = Judge.gap(heights, land.height[m]) - land.wear[k] - land.wear[m];
                count += left <= more ? 1 : 0;
            }
        }
        return count;
    }

    public int steaming(int k, int a, int by, int what) {
        if (!isNumber(k) || !isNumber(a) || k == a || by < 0 || by > MOST_WEAR) {
            return NONE;
        }
        if (what < 0 || what > 2) {
            return NONE;
        }
        sander.steam(land.height[k], land.height[a], by + land.wear[k] + land.wear[a]);
        if (!sander.done) {
            return CANNOT;
        }
        if (what == 0) {
            return sander.work;
        }
        return what == 1 ? sander.turns : sander.raising + 10;
    }

    public int worn(int i, int j) {
        if (!land.isAlive(i) || !land.isAlive(j) || land.side[i] == land.side[j]) {
            return NONE;
        }
        int allowed = judge.allowance(land, i, j);
        int by = judge.wearOf(land, i, j);
        trial.copyFrom(land);
        for (int tries = 0; tries <= MOST_WEAR; tries++) {
            int left = judge.slackOf(trial, i, j);
            if (left >= 0 && left <= allowed) {
                return tries;
            }
            trial.wearDown(i, by);
            trial.wearDown(j, by);
        }
        return CANNOT;
    }

    // ---- pieces compared

    public int cutter(int n, int what) {
        boolean ofPiece = what >= 10 && what < 10 + PEOPLE;
        if (n < 1 || n > 5 || 2 * n > tape.length || what != 0 && what != 1 && !ofPiece) {
            return NONE;
        }
        tape.length = 0;
        for (int t = 0; t < n; t++) {
            if (tape.bytes[2 * t] >= PEOPLE || tape.bytes[2 * t + 1] >= PEOPLE
                || tape.bytes[2 * t] == tape.bytes[2 * t + 1]) {
                return -3;
            }
        }
        int count = 0;
        int first = CANNOT;
        for (int rule = 0; rule < HEIGHTS * 14; rule++) {
            if (rulesAll(rule, n)) {
                first = count == 0 ? rule : first;
                count++;
            }
        }
        if (what == 0) {
            return count;
        }
        return ofPiece && first >= 0 ? madeBy(first, what - 10) : ofPiece ? CANNOT : first;
    }

    private boolean rulesAll(int rule, int n) {
        for (int t = 0; t < n; t++) {
            int one = tape.bytes[2 * t];
            int other = tape.bytes[2 * t + 1];
            if (!isNumber(one) || !isNumber(other)) {
                return false;
            }
            cut(rule, land.height[one]);
            if (!sameRow(row, land.height[other])) {
                return false;
            }
        }
        return true;
    }

    private int madeBy(int rule, int k) {
        if (!isNumber(k)) {
            return CANNOT;
        }
        cut(rule, land.height[k]);
        for (int m = 0; m < PEOPLE; m++) {
            if (sameRow(row, land.height[m])) {
                return m;
            }
        }
        return CANNOT;
    }

    /** Leaves in row what a rule, by its number, makes of a piece's heights. */
    private void cut(int rule, int[] from) {
        int shift = rule / 14;
        int sign = rule % 14 / 7;
        int more = rule % 7 - RULE_MORE;
        for (int h = 0; h < HEIGHTS; h++) {
            row[(h + shift) & 7] = (sign == 0 ? from[h] : -from[h]) + more;
        }
    }

    private static boolean sameRow(int[] one, int[] other) {
        for (int h = 0; h < HEIGHTS; h++) {
            if (one[h] != other[h]) {
                return false;
            }
        }
        return true;
    }

    public int copies(int what) {
        if (what < 0 || what > 3) {
            return NONE;
        }
        int twos = 0;
        int answer = NOBODY;
        for (int i = 0; i < PEOPLE; i++) {
            for (int j = i + 1; j < PEOPLE; j++) {
                if (land.isTold(i) && land.isTold(j) && sameRow(land.height[i], land.height[j])) {
                    if (twos == 0) {
                        int copy = land.wear[i] < land.wear[j] ? i : j;
                        answer = what == 1 ? i : what == 2 ? j : copy;
                    }
                    twos++;
                }
            }
        }
        return what == 0 ? twos : answer;
    }

    public int mate(int k, int h) {
        if (!isNumber(k) || h < 0 || h >= HEIGHTS) {
            return NONE;
        }
        return 10 - land.height[k][HEIGHTS - 1 - h];
    }

    // ---- the seed, kept and undone, check, count

    public boolean seed(int x) {
        if (x < 0 || x > 65535) {
            return false;
        }
        land.x = x;
        return true;
    }

    public int keep() {
        kept.copyFrom(land);
        hasKept = true;
        return land.countTwos();
    }

    public boolean undo() {
        if (!hasKept) {
            return false;
        }
        land.copyFrom(kept);
        return true;
    }

    public int check(int k, int n) {
        if (!isNumber(k) || n < 0 || n > HEIGHTS || n > tape.length) {
            return -2;
        }
        tape.length = 0;
        for (int h = 0; h < n; h++) {
            if (tape.bytes[h] != land.height[k][h] + HIGHEST) {
                return h;
            }
        }
        return NONE;
    }

    public int count(int what) {
        switch (what) {
            case 0: return land.day;
            case 1: return land.told;
            case 2: return land.living;
            case 3: return land.countTwos();
            case 4: return law.clauses;
            case 5: return tape.length;
            case 6: return land.x;
            default: return what >= 10 && what < 10 + TOWNS ? land.whoIsIn(what - 10) : NONE;
        }
    }

    private static boolean isNumber(int k) {
        return k >= 0 && k < PEOPLE;
    }

    /** All that is kept and undone: people, pieces, journeys, who tried whom, the day, X. */
    private static final class Land {
        int told;
        int living;
        final int[] side;
        final int[] town;
        final int[] wedTo;
        final int[] creaks;
        final int[] triedBits;
        final int[] holder;
        final int[] wear;
        final int[][] height;
        final int[][] way;
        final int[] wayLength;
        final int[] wayGone;
        int day;
        int x;

        Land() {
            side = new int[PEOPLE];
            town = new int[PEOPLE];
            wedTo = new int[PEOPLE];
            creaks = new int[PEOPLE];
            triedBits = new int[PEOPLE];
            holder = new int[PEOPLE];
            wear = new int[PEOPLE];
            height = new int[PEOPLE][HEIGHTS];
            way = new int[PEOPLE][WAY_ROOM];
            wayLength = new int[PEOPLE];
            wayGone = new int[PEOPLE];
            x = 1;
            for (int k = 0; k < PEOPLE; k++) {
                wedTo[k] = NOBODY;
                holder[k] = k;
            }
        }

        boolean isTold(int i) {
            return isNumber(i) && (told >> i & 1) == 1;
        }

        boolean isAlive(int i) {
            return isNumber(i) && (living >> i & 1) == 1;
        }

        boolean isFree(int i) {
            return isAlive(i) && wedTo[i] == NOBODY;
        }

        void join(int i, int j) {
            if (isNumber(i) && isNumber(j)) {
                wedTo[i] = j;
                wedTo[j] = i;
                creaks[i] = 0;
                creaks[j] = 0;
            }
        }

        void separate(int i, int j) {
            if (isNumber(i) && isNumber(j)) {
                wedTo[i] = NOBODY;
                wedTo[j] = NOBODY;
            }
        }

        boolean hasTried(int i, int j) {
            return isNumber(i) && isNumber(j) && (triedBits[i] >> j & 1) == 1;
        }

        void markTried(int i, int j) {
            if (isNumber(i) && isNumber(j)) {
                triedBits[i] |= 1 << j;
                triedBits[j] |= 1 << i;
            }
        }

        void bury(int i) {
            if (!isNumber(i)) {
                return;
            }
            int heir = wedTo[i];
            for (int k = 0; k < PEOPLE; k++) {
                if (holder[k] == i) {
                    holder[k] = heir;
                }
            }
            separate(i, heir);
            living &= ~(1 << i);
        }

        int piecesOf(int i) {
            int bits = 0;
            for (int k = 0; k < PEOPLE; k++) {
                if (holder[k] == i) {
                    bits |= 1 << k;
                }
            }
            return bits;
        }

        void wearDown(int i, int by) {
            for (int k = 0; k < PEOPLE; k++) {
                if (holder[k] == i) {
                    wear[k] = Math.min(MOST_WEAR, wear[k] + by);
                }
            }
        }

        int countTwos() {
            int twos = 0;
            for (int i = 0; i < PEOPLE; i++) {
                if (wedTo[i] > i) {
                    twos++;
                }
            }
            return twos;
        }

        int whoIsIn(int place) {
            int bits = 0;
            for (int i = 0; i < PEOPLE; i++) {
                if (isAlive(i) && town[i] == place) {
                    bits |= 1 << i;
                }
            }
            return bits;
        }

        int draw() {
            x = (25173 * x + 13849) & 65535;
            return x % 10;
        }

        void copyFrom(Land other) {
            if (other == null) {
                return;
            }
            told = other.told;
            living = other.living;
            day = other.day;
            x = other.x;
            for (int k = 0; k < PEOPLE; k++) {
                side[k] = other.side[k];
                town[k] = other.town[k];
                wedTo[k] = other.wedTo[k];
                creaks[k] = other.creaks[k];
                triedBits[k] = other.triedBits[k];
                holder[k] = other.holder[k];
                wear[k] = other.wear[k];
                wayLength[k] = other.wayLength[k];
                wayGone[k] = other.wayGone[k];
                System.arraycopy(other.height[k], 0, height[k], 0, HEIGHTS);
                System.arraycopy(other.way[k], 0, way[k], 0, WAY_ROOM);
            }
        }
    }

    private static final class Tape {
        final int[] bytes;
        int length;

        Tape() {
            bytes = new int[TAPE_ROOM];
        }

        /** Four bytes of one int, the highest first. */
        void add(int word) {
            for (int shift = 24; shift >= 0; shift -= 8) {
                if (length >= 0 && length < TAPE_ROOM) {
                    bytes[length] = word >>> shift & 255;
                    length++;
                }
            }
        }
    }

    /** A text on the tape, read from the left; what was wrong first, and where. */
    private abstract static class Reader {
        static final int THE_END = -1;
        final Tape tape;
        int length;
        int at;
        int fault;

        Reader(Tape from) {
            tape = from;
        }

        void begin(int n) {
            length = n;
            at = 0;
            fault = 0;
        }

        int sign() {
            return at >= 0 && at < length && at < TAPE_ROOM ? tape.bytes[at] : THE_END;
        }

        boolean isEnd() {
            return at >= length;
        }

        boolean fail(int number) {
            return failAt(number, at);
        }

        boolean failAt(int number, int place) {
            fault = -1000 * number - place;
            return false;
        }
    }

    /** Reads edges and journeys: parts with a comma between two, each perhaps so many times. */
    private static final class ListReader extends Reader {
        final int[] list;
        int filled;
        private int value;
        private int times;

        ListReader(Tape from) {
            super(from);
            list = new int[WAY_ROOM];
        }

        boolean readEdge(int n) {
            begin(n);
            filled = 0;
            for (int part = 0; part < n; part++) {
                int first = at;
                if (!readHeight() || !readTimes('8')) {
                    return false;
                }
                if (filled + times > HEIGHTS) {
                    return failAt(6, first);
                }
                put();
                if (isEnd()) {
                    return filled == HEIGHTS || fail(1);
                }
                if (sign() != ',') {
                    return fail(1);
                }
                at++;
            }
            return fail(1);
        }

        boolean readWay(int n) {
            begin(n);
            filled = 0;
            for (int stop = 0; stop <= STOPS; stop++) {
                int town = sign();
                if (town < '0' || town > '9') {
                    return fail(1);
                }
                if (stop == STOPS) {
                    return fail(4);
                }
                if (town > '5') {
                    return fail(3);
                }
                value = town - '0';
                at++;
                if (!readTimes('9')) {
                    return false;
                }
                put();
                if (isEnd()) {
                    return true;
                }
                if (sign() != ',') {
                    return fail(1);
                }
                at++;
            }
            return fail(1);
        }

        private boolean readHeight() {
            boolean below = sign() == '-';
            if (below) {
                at++;
            }
            int digit = sign();
            if (digit < (below ? '1' : '0') || digit > '9') {
                return fail(1);
            }
            value = below ? '0' - digit : digit - '0';
            at++;
            return true;
        }

        private boolean readTimes(int most) {
            times = 1;
            if (sign() != '*') {
                return true;
            }
            at++;
            int digit = sign();
            if (digit < '2' || digit > most) {
                return fail(1);
            }
            times = digit - '0';
            at++;
            return true;
        }

        private void put() {
            for (int t = 0; t < times; t++) {
                if (filled >= 0 && filled < WAY_ROOM) {
                    list[filled] = value;
                    filled++;
                }
            }
        }
    }

    /** The clauses in a code for a machine with a stack: each clause's E and C end with END. */
    private static final class Law {
        static final int CODE_ROOM = 512;
        static final int STACK_ROOM = 64;
        static final int END = 0;
        static final int NUMBER = 1;
        static final int LETTER = 2;
        final int[] code;
        final int[] letter;
        final int[] worthAt;
        final int[] whenAt;
        private final int[] stack;
        int used;
        int clauses;

        Law() {
            code = new int[CODE_ROOM];
            letter = new int[CLAUSES];
            worthAt = new int[CLAUSES];
            whenAt = new int[CLAUSES];
            stack = new int[STACK_ROOM];
        }

        void emit(int word) {
            if (used >= 0 && used < CODE_ROOM) {
                code[used] = word;
                used++;
            }
        }

        void copyFrom(Law other) {
            if (other == null) {
                return;
            }
            System.arraycopy(other.code, 0, code, 0, CODE_ROOM);
            System.arraycopy(other.letter, 0, letter, 0, CLAUSES);
            System.arraycopy(other.worthAt, 0, worthAt, 0, CLAUSES);
            System.arraycopy(other.whenAt, 0, whenAt, 0, CLAUSES);
            clauses = other.clauses;
        }

        /** What stands from start on, by the letters' values; 0 if it is refused. */
        int run(int start, int[] letters) {
            int high = 0;
            int at = start;
            for (int step = 0; step < CODE_ROOM; step++) {
                if (at < 0 || at + 1 >= CODE_ROOM || code[at] == END) {
                    break;
                }
                int op = code[at];
                int next = code[at + 1];
                if (op == NUMBER || op == LETTER) {
                    if (high >= STACK_ROOM) {
                        return 0;
                    }
                    stack[high] = op == NUMBER ? next : valueOf(next, letters);
                    high++;
                    at += 2;
                } else if (high == 0) {
                    return 0;
                } else if (op == '!') {
                    stack[high - 1] = stack[high - 1] == 0 ? 1 : 0;
                    at++;
                } else if (op == '|' || op == '&') {
                    boolean decided = (stack[high - 1] != 0) == (op == '|');
                    high -= decided ? 0 : 1;
                    at = decided ? next : at + 2;
                } else {
                    int right = stack[high - 1];
                    if (high < 2 || right == 0 && (op == '/' || op == '%')) {
                        return 0;
                    }
                    high--;
                    stack[high - 1] = reckon(op, stack[high - 1], right);
                    at++;
                }
            }
            return high > 0 ? stack[0] : 0;
        }

        private static int valueOf(int place, int[] letters) {
            return place >= 0 && place < letters.length ? letters[place] : 0;
        }

        private static int reckon(int op, int left, int right) {
            switch (op) {
                case '+': return left + right;
                case '-': return left - right;
                case '*': return left * right;
                case '/': return right == 0 ? 0 : left / right;
                case '%': return right == 0 ? 0 : left % right;
                case '<': return left < right ? 1 : 0;
                case '>': return left > right ? 1 : 0;
                case '=': return left == right ? 1 : 0;
                default: return 0;
            }
        }
    }

    /** Reads a law into a draft; open counts the ( [ ! that are open at a place. */
    private static final class LawReader extends Reader {
        private static final String CLAUSE_LETTERS = "flwcb";
        private static final String LETTERS = "ijsxyuvdapq";
        private final Law draft;

        LawReader(Tape from, Law into) {
            super(from);
            draft = into;
        }

        boolean readLaw(int n) {
            begin(n);
            draft.used = 0;
            draft.clauses = 0;
            for (int c = 0; c <= CLAUSES; c++) {
                if (!readClause()) {
                    return false;
                }
                if (isEnd()) {
                    return true;
                }
                if (sign() != ';') {
                    return fail(1);
                }
                at++;
            }
            return fail(1);
        }

        private boolean readClause() {
            int c = draft.clauses;
            if (isEnd() || CLAUSE_LETTERS.indexOf((char) sign()) < 0) {
                return fail(1);
            }
            if (c < 0 || c >= CLAUSES) {
                return fail(4);
            }
            draft.letter[c] = sign();
            draft.worthAt[c] = draft.used;
            at++;
            if (!readSum(0)) {
                return false;
            }
            draft.emit(Law.END);
            draft.whenAt[c] = draft.used;
            if (!pass('(') || !readEither(1) || !pass(')')) {
                return false;
            }
            draft.emit(Law.END);
            draft.clauses = c + 1;
            return true;
        }

        private boolean pass(int due) {
            if (sign() != due) {
                return fail(1);
            }
            at++;
            return true;
        }

        private boolean readEither(int open) {
            int pending = NONE;
            for (int part = 0; part <= length; part++) {
                if (!readBoth(open)) {
                    return false;
                }
                if (sign() != '|') {
                    break;
                }
                pending = emitJump('|', pending);
                at++;
            }
            land(pending);
            return true;
        }

        private boolean readBoth(int open) {
            int pending = NONE;
            for (int test = 0; test <= length; test++) {
                if (!readTest(open)) {
                    return false;
                }
                if (sign() != '&') {
                    break;
                }
                pending = emitJump('&', pending);
                at++;
            }
            land(pending);
            return true;
        }

        /** A jump of a row lands at the next one, which jumps on: only the last one is pending. */
        private int emitJump(int op, int pending) {
            land(pending);
            draft.emit(op);
            draft.emit(0);
            return draft.used - 1;
        }

        private void land(int pending) {
            if (pending >= 0 && pending < Law.CODE_ROOM) {
                draft.code[pending] = draft.used;
            }
        }

        private boolean readTest(int open) {
            int first = sign();
            if (first == '!' || first == '(') {
                return readInner(first, open);
            }
            if (!readSum(open)) {
                return false;
            }
            int op = sign();
            if (op != '<' && op != '>' && op != '=') {
                return fail(1);
            }
            at++;
            if (!readSum(open)) {
                return false;
            }
            draft.emit(op);
            return true;
        }

        private boolean readInner(int first, int open) {
            if (open >= MOST_OPEN) {
                return fail(5);
            }
            at++;
            if (first == '(') {
                return readEither(open + 1) && pass(')');
            }
            if (!readTest(open + 1)) {
                return false;
            }
            draft.emit('!');
            return true;
        }

        private boolean readSum(int open) {
            int pending = 0;
            for (int term = 0; term <= length; term++) {
                if (!readProduct(open)) {
                    return false;
                }
                if (pending != 0) {
                    draft.emit(pending);
                }
                pending = sign();
                if (pending != '+' && pending != '-') {
                    return true;
                }
                at++;
            }
            return fail(1);
        }

        private boolean readProduct(int open) {
            int pending = 0;
            for (int factor = 0; factor <= length; factor++) {
                if (!readFactor(open)) {
                    return false;
                }
                if (pending != 0) {
                    draft.emit(pending);
                }
                pending = sign();
                if (pending != '*' && pending != '/' && pending != '%') {
                    return true;
                }
                at++;
            }
            return fail(1);
        }

        private boolean readFactor(int open) {
            int first = sign();
            if (first == '[') {
                if (open >= MOST_OPEN) {
                    return fail(5);
                }
                at++;
                return readSum(open + 1) && pass(']');
            }
            if (first >= '0' && first <= '9') {
                return readNumber();
            }
            int place = isEnd() ? NONE : LETTERS.indexOf((char) first);
            if (place < 0) {
                return fail(1);
            }
            draft.emit(Law.LETTER);
            draft.emit(place);
            at++;
            return true;
        }

        private boolean readNumber() {
            int number = 0;
            for (int d = 0; d <= DIGITS; d++) {
                int digit = sign();
                if (digit < '0' || digit > '9') {
                    break;
                }
                if (d == DIGITS) {
                    return fail(2);
                }
                number = number * 10 + digit - '0';
                at++;
            }
            draft.emit(Law.NUMBER);
            draft.emit(number);
            return true;
        }
    }

    /** Slack between pieces and people, and what the law says of two people. */
    private static final class Judge {
        private final Law law;
        private final int[] letters;

        Judge(Law by) {
            law = by;
            letters = new int[11];
        }

        static int gap(int[] one, int[] other) {
            int sum = 0;
            for (int h = 0; h < HEIGHTS; h++) {
                sum += Math.abs(one[h] + other[HEIGHTS - 1 - h]);
            }
            return sum;
        }

        /** The least slack over the pieces that the two hold; NONE if one holds none. */
        int slackOf(Land land, int i, int j) {
            int least = NONE;
            for (int p = 0; p < PEOPLE; p++) {
                for (int q = 0; land.holder[p] == i && q < PEOPLE; q++) {
                    if (land.holder[q] == j) {
                        int left = gap(land.height[p], land.height[q]) - land.wear[p] - land.wear[q];
                        int slack = Math.max(0, left);
                        least = least < 0 ? slack : Math.min(least, slack);
                    }
                }
            }
            return least;
        }

        boolean fit(Land land, int i, int j) {
            int slack = slackOf(land, i, j);
            return slack >= 0 && slack <= allowance(land, i, j);
        }

        int allowance(Land land, int i, int j) {
            boolean inOrder = isFirst(land, i, j);
            return rule('f', 99, land, inOrder ? i : j, inOrder ? j : i, 0);
        }

        int liking(Land land, int i, int j) {
            return rule('l', 99, land, i, j, slackOf(land, i, j));
        }

        int wearOf(Land land, int i, int j) {
            boolean wed = isNumber(i) && land.wedTo[i] == j;
            boolean inOrder = wed ? i < j : isFirst(land, i, j);
            return rule('w', 9, land, inOrder ? i : j, inOrder ? j : i, slackOf(land, i, j));
        }

        private static boolean isFirst(Land land, int i, int j) {
            if (!isNumber(i) || !isNumber(j)) {
                return true;
            }
            return land.side[i] < land.side[j] || land.side[i] == land.side[j] && i < j;
        }

        /** The E of the first clause of that letter whose C holds, from 0 to top; 0 if there is none. */
        int rule(int letter, int top, Land land, int i, int j, int slack) {
            fill(land, i, j, slack);
            for (int c = 0; c < law.clauses && c < CLAUSES; c++) {
                if (law.letter[c] == letter && law.run(law.whenAt[c], letters) != 0) {
                    return Math.max(0, Math.min(top, law.run(law.worthAt[c], letters)));
                }
            }
            return 0;
        }

        private void fill(Land land, int i, int j, int slack) {
            if (!isNumber(i) || !isNumber(j)) {
                Arrays.fill(letters, 0);
                return;
            }
            letters[0] = i;
            letters[1] = j;
            letters[2] = Math.max(0, slack);
            letters[3] = Integer.bitCount(land.piecesOf(i));
            letters[4] = Integer.bitCount(land.piecesOf(j));
            letters[5] = land.town[i];
            letters[6] = land.town[j];
            letters[7] = land.day;
            letters[8] = land.creaks[i];
            letters[9] = land.side[i];
            letters[10] = land.side[j];
        }
    }

    /** Days that go by in a land, and what happened in them. */
    private static final class Course {
        private final Judge judge;
        int wed;
        int tries;
        int parted;

        Course(Judge by) {
            judge = by;
        }

        void pass(Land land, int n) {
            wed = 0;
            tries = 0;
            parted = 0;
            for (int d = 0; d < n && land.day < LAST_DAY; d++) {
                travel(land);
                meet(land);
                strain(land);
                land.day++;
            }
        }

        private void travel(Land land) {
            for (int i = 0; i < PEOPLE; i++) {
                int gone = land.wayGone[i];
                if (land.isFree(i) && gone >= 0 && gone < land.wayLength[i] && gone < WAY_ROOM) {
                    land.town[i] = land.way[i][gone];
                    land.wayGone[i] = gone + 1;
                }
            }
        }

        private void meet(Land land) {
            for (int town = 0; town < TOWNS; town++) {
                for (int i = 0; i < PEOPLE; i++) {
                    int j = nextFor(land, i, town);
                    if (j < 0) {
                        continue;
                    }
                    tries++;
                    land.markTried(i, j);
                    if (judge.fit(land, i, j)) {
                        land.join(i, j);
                        wed++;
                    } else {
                        int by = judge.wearOf(land, i, j);
                        land.wearDown(i, by);
                        land.wearDown(j, by);
                    }
                }
            }
        }

        /** Whom a person tries in a town; NONE if it tries nobody there. */
        private static int nextFor(Land land, int i, int town) {
            if (!land.isFree(i) || land.side[i] != 0 || land.town[i] != town) {
                return NONE;
            }
            for (int j = 0; j < PEOPLE; j++) {
                if (land.isFree(j) && land.side[j] == 1 && land.town[j] == town && !land.hasTried(i, j)) {
                    return j;
                }
            }
            return NONE;
        }

        private void strain(Land land) {
            for (int i = 0; i < PEOPLE; i++) {
                int j = land.wedTo[i];
                if (j <= i || !isNumber(j)) {
                    continue;
                }
                int slack = judge.slackOf(land, i, j);
                if (land.draw() < judge.rule('c', 10, land, i, j, slack)) {
                    land.creaks[i] = Math.min(MOST_CREAKS, land.creaks[i] + 1);
                    land.creaks[j] = Math.min(MOST_CREAKS, land.creaks[j] + 1);
                }
                if (land.creaks[i] > judge.rule('b', 99, land, i, j, slack)) {
                    land.separate(i, j);
                    land.markTried(i, j);
                    parted++;
                }
            }
        }
    }

    /** Matchings of those that live: the most with the least slack, and one none would leave. */
    private static final class Couples {
        private static final int OF_ONE = 10000;
        private static final int STATES = 1 << PEOPLE;
        private final Judge judge;
        final int[] partner;
        int twos;
        int slackSum;
        private final int[] ones;
        private final int[] others;
        private int oneCount;
        private int otherCount;
        private final int[][] bond;
        private final int[] best;
        private final int[] asked;

        Couples(Judge by) {
            judge = by;
            partner = new int[PEOPLE];
            ones = new int[PEOPLE];
            others = new int[PEOPLE];
            bond = new int[PEOPLE][PEOPLE];
            best = new int[STATES];
            asked = new int[PEOPLE];
        }

        private void gather(Land land) {
            oneCount = 0;
            otherCount = 0;
            twos = 0;
            slackSum = 0;
            for (int i = 0; i < PEOPLE; i++) {
                partner[i] = NOBODY;
                asked[i] = 0;
                if (land.isAlive(i) && land.side[i] == 0) {
                    ones[oneCount] = i;
                    oneCount++;
                } else if (land.isAlive(i)) {
                    others[otherCount] = i;
                    otherCount++;
                }
            }
        }

        void findMost(Land land) {
            gather(land);
            for (int p = 0; p < oneCount; p++) {
                for (int q = 0; q < otherCount; q++) {
                    boolean fit = judge.fit(land, ones[p], others[q]);
                    bond[p][q] = fit ? OF_ONE - judge.slackOf(land, ones[p], others[q]) : 0;
                }
            }
            weighAll();
            int taken = 0;
            for (int p = 0; p < oneCount; p++) {
                int q = choose(p, taken);
                if (q >= 0 && q < otherCount) {
                    taken |= 1 << q;
                    twos++;
                    slackSum += OF_ONE - bond[p][q];
                    partner[ones[p]] = others[q];
                }
            }
        }

        /** best: what those of side 0 from p on can have at most, by who is taken of side 1. */
        private void weighAll() {
            int masks = 1 << otherCount;
            for (int taken = 0; taken < masks; taken++) {
                setBest(oneCount, taken, 0);
            }
            for (int p = oneCount - 1; p >= 0; p--) {
                for (int taken = 0; taken < masks; taken++) {
                    int value = bestOf(p + 1, taken);
                    for (int q = 0; q < otherCount; q++) {
                        value = Math.max(value, withBond(p, q, taken));
                    }
                    setBest(p, taken, value);
                }
            }
        }

        /** The lowest of side 1 by whom the best is had; NONE if it is had by nobody alone. */
        private int choose(int p, int taken) {
            for (int q = 0; q < otherCount; q++) {
                if (withBond(p, q, taken) == bestOf(p, taken)) {
                    return q;
                }
            }
            return NONE;
        }

        private int withBond(int p, int q, int taken) {
            if ((taken >> q & 1) == 1 || bond[p][q] == 0) {
                return NONE;
            }
            return bond[p][q] + bestOf(p + 1, taken | 1 << q);
        }

        private int bestOf(int p, int taken) {
            int place = (p << otherCount) + taken;
            return place >= 0 && place < STATES ? best[place] : 0;
        }

        private void setBest(int p, int taken, int value) {
            int place = (p << otherCount) + taken;
            if (place >= 0 && place < STATES) {
                best[place] = value;
            }
        }

        void findStable(Land land) {
            gather(land);
            for (int p = 0; p < oneCount; p++) {
                for (int q = 0; q < otherCount; q++) {
                    int i = ones[p];
                    int j = others[q];
                    boolean fit = judge.fit(land, i, j);
                    bond[i][j] = fit ? judge.liking(land, i, j) : 0;
                    bond[j][i] = fit ? judge.liking(land, j, i) : 0;
                }
            }
            boolean moved = true;
            for (int round = 0; moved && round <= PEOPLE * PEOPLE; round++) {
                moved = false;
                for (int p = 0; p < oneCount; p++) {
                    if (partner[ones[p]] == NOBODY && askNext(ones[p])) {
                        moved = true;
                    }
                }
            }
            for (int p = 0; p < oneCount; p++) {
                twos += partner[ones[p]] == NOBODY ? 0 : 1;
            }
        }

        /** One asks the best liked that it has not asked yet; false if there is nobody left. */
        private boolean askNext(int i) {
            int wanted = NONE;
            for (int q = 0; q < otherCount; q++) {
                int j = others[q];
                boolean open = (asked[i] >> j & 1) == 0 && bond[i][j] > 0;
                if (open && (wanted < 0 || bond[i][j] > bond[i][wanted])) {
                    wanted = j;
                }
            }
            if (wanted < 0) {
                return false;
            }
            asked[i] |= 1 << wanted;
            int rival = partner[wanted];
            if (prefers(wanted, i, rival)) {
                partner[wanted] = i;
                partner[i] = wanted;
                if (rival >= 0) {
                    partner[rival] = NOBODY;
                }
            }
            return true;
        }

        private boolean prefers(int j, int i, int rival) {
            if (bond[j][i] == 0 || rival < 0) {
                return bond[j][i] > 0;
            }
            return bond[j][i] > bond[j][rival] || bond[j][i] == bond[j][rival] && i < rival;
        }
    }

    /** In which order to go through the towns so that one is found soonest on the mean. */
    private static final class Search {
        private static final int MOST_ORDERS = 120;
        private final Tape tape;
        private int towns;
        private final int[] weight;
        private final int[][] travel;
        private final int[] order;
        final int[] bestOrder;
        private int bestSum;
        private int weights;

        Search(Tape from) {
            tape = from;
            weight = new int[TOWNS];
            travel = new int[TOWNS][TOWNS];
            order = new int[TOWNS];
            bestOrder = new int[TOWNS];
        }

        /** Takes weights and days of travel from the tape; false if they can't be so. */
        boolean accept(int n) {
            towns = Math.max(0, Math.min(TOWNS, n));
            weights = 0;
            boolean right = true;
            for (int t = 0; t < towns; t++) {
                weight[t] = tape.bytes[t];
                weights += weight[t];
                right = right && weight[t] <= 99;
                for (int u = 0; u < towns; u++) {
                    travel[t][u] = tape.bytes[towns + t * towns + u];
                    right = right && (t == u || travel[t][u] >= 1 && travel[t][u] <= 20);
                }
            }
            return right && weights > 0;
        }

        void find() {
            for (int t = 0; t < TOWNS; t++) {
                order[t] = t;
            }
            bestSum = NONE;
            boolean more = true;
            for (int round = 0; more && round < MOST_ORDERS; round++) {
                weigh();
                more = nextOrder();
            }
        }

        private void weigh() {
            int day = 0;
            int sum = 0;
            for (int p = 1; p < towns; p++) {
                day += travel[order[p - 1]][order[p]];
                sum += weight[order[p]] * day;
            }
            if (bestSum < 0 || sum < bestSum) {
                bestSum = sum;
                System.arraycopy(order, 0, bestOrder, 0, TOWNS);
            }
        }

        /** The next greater order that begins with town 0; false if there is none. */
        private boolean nextOrder() {
            int place = 0;
            for (int p = 1; p + 1 < towns; p++) {
                place = order[p] < order[p + 1] ? p : place;
            }
            if (place == 0) {
                return false;
            }
            int other = place;
            for (int p = place + 1; p < towns; p++) {
                other = order[p] > order[place] ? p : other;
            }
            swap(place, other);
            int high = towns - 1;
            for (int low = place + 1; low < high; low++) {
                swap(low, high);
                high--;
            }
            return true;
        }

        private void swap(int p, int q) {
            if (p >= 0 && p < TOWNS && q >= 0 && q < TOWNS) {
                int town = order[p];
                order[p] = order[q];
                order[q] = town;
            }
        }

        int above() {
            int divisor = commonDivisor();
            return divisor > 0 ? bestSum / divisor : bestSum;
        }

        int below() {
            int divisor = commonDivisor();
            return divisor > 0 ? weights / divisor : weights;
        }

        private int commonDivisor() {
            int one = bestSum;
            int other = weights;
            for (int step = 0; step < 64 && other > 0; step++) {
                int rest = one % other;
                one = other;
                other = rest;
            }
            return one;
        }
    }

    /** A piece sanded or steamed so that it fits told ones. */
    private static final class Sander {
        private static final int ROOMS = SAND_MOST + 1;
        private static final int VALUES = 2 * HIGHEST + 1;
        private static final long NEVER = 1L << 62;
        private static final long CHANGE = 16983563041L; // VALUES to the power HEIGHTS
        final int[] made;
        boolean done;
        int work;
        int turns;
        int raising;
        private final long[] least;
        private final long[] cost;
        private final int[] gapOne;
        private final int[] gapOther;
        private int low;
        private int high;

        Sander() {
            made = new int[HEIGHTS];
            cost = new long[VALUES];
            gapOne = new int[VALUES];
            gapOther = new int[VALUES];
            least = new long[ROOMS * ROOMS];
        }

        /**
         * The least work and edge by which the gap to one is at most roomOne, to the other (null:
         * none) at most roomOther, each 0 to SAND_MOST. A sum of changes and the edge's heights, as
         * digits below it, make one number, so that the least of these is of the least edge, too.
         */
        void sand(int[] from, int[] one, int roomOne, int[] other, int roomOther) {
            int topOne = Math.max(0, Math.min(SAND_MOST, roomOne));
            int topOther = Math.max(0, Math.min(SAND_MOST, roomOther));
            Arrays.fill(least, 0L);
            long digit = 1;
            for (int h = HEIGHTS - 1; h >= 0; h--) {
                int facing = HEIGHTS - 1 - h;
                weigh(from[h], -one[facing], other == null ? -one[facing] : -other[facing], digit);
                if (other == null) {
                    Arrays.fill(gapOther, 0);
                }
                for (int r = topOne; r >= 0; r--) {
                    for (int s = topOther; s >= 0; s--) {
                        least[r * ROOMS + s] = bestHere(r, s);
                    }
                }
                digit *= VALUES;
            }
            read(leastOf(topOne, topOther));
        }

        /** Values beyond a height and both its mates cost more and gap more: they are left out. */
        private void weigh(int height, int mateOne, int mateOther, long digit) {
            low = HIGHEST + Math.min(height, Math.min(mateOne, mateOther));
            high = HIGHEST + Math.max(height, Math.max(mateOne, mateOther));
            for (int place = 0; place < VALUES; place++) {
                int value = place - HIGHEST;
                cost[place] = Math.abs(value - height) * CHANGE + place * digit;
                gapOne[place] = Math.abs(value - mateOne);
                gapOther[place] = Math.abs(value - mateOther);
            }
        }

        /** Rooms are gone through from the greatest, so that the smaller ones are still of the height before. */
        private long bestHere(int r, int s) {
            long value = NEVER;
            for (int place = Math.max(0, low); place <= high && place < VALUES; place++) {
                long before = leastOf(r - gapOne[place], s - gapOther[place]);
                if (before != NEVER) {
                    value = Math.min(value, before + cost[place]);
                }
            }
            return value;
        }

        private long leastOf(int r, int s) {
            return r < 0 || s < 0 || r >= ROOMS || s >= ROOMS ? NEVER : least[r * ROOMS + s];
        }

        private void read(long value) {
            done = value != NEVER;
            long rest = done ? value : 0;
            for (int h = HEIGHTS - 1; h >= 0; h--) {
                made[h] = (int) (rest % VALUES) - HIGHEST;
                rest /= VALUES;
            }
            work = (int) rest;
        }

        /** The fewest turns and raisings by which the gap to the other one is at most room. */
        void steam(int[] from, int[] other, int room) {
            done = false;
            for (int turn = 0; turn < HEIGHTS; turn++) {
                for (int raise = -HIGHEST; raise <= HIGHEST; raise++) {
                    int doings = turn + Math.abs(raise);
                    if (done && doings >= work) {
                        continue;
                    }
                    for (int h = 0; h < HEIGHTS; h++) {
                        int raised = from[(h + turn) & 7] + raise;
                        made[h] = Math.max(-HIGHEST, Math.min(HIGHEST, raised));
                    }
                    if (Judge.gap(made, other) <= room) {
                        done = true;
                        work = doings;
                        turns = turn;
                        raising = raise;
                    }
                }
            }
        }
    }
}
