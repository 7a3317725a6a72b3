import java.util.NoSuchElementException;

/**
 * Letters sent as levels: a town of basins and sluices, its hours and its keepers.
 * The document (../shared/DOC.md) tells what each call promises.
 */
public final class LockLetters {
    public static final int NONE = -1;

    private static final int CANT = -2;
    private static final int MISSING = -3;
    private static final int GOOD = -1;
    private static final int END = -1;
    private static final int FULL = 9;
    private static final int MOST_BASINS = 6;
    private static final int MOST_SLUICES = 8;
    private static final int MOST_SIGNS = 80;
    private static final int BASIN_SIGNS = 23;
    private static final int SLUICE_SIGNS = 31;
    private static final int RULE_SIGNS = 40;
    private static final int NIGHT_SIGNS = 60;
    private static final int LINE = 4;
    private static final int HOURS_DONE = 60;
    private static final int HOURS_AHEAD = 99;
    private static final int HOURS_SENT = 40;
    private static final int HOURS_SEEN = 20;
    private static final int LOOKS = HOURS_SEEN + 1;
    private static final int LAW_HOURS = 10;
    private static final int LAW_WRONG = -10000;
    private static final int FAR = 1000;

    private final Text text;
    private final Canals canals;
    private final Ways ways;
    private final Turns turns;
    private final Rule rule;
    private final Rule other;
    private final RuleReader reader;
    private final State now;
    private final State ahead;
    private final State trial;
    private final Past past;
    private final Row told;
    private final Seen seen;
    private final long[] trace;
    private final int[] masks;
    private final int[] won;

    public LockLetters() {
        text = new Text();
        canals = new Canals();
        ways = new Ways(canals);
        turns = new Turns();
        rule = new Rule();
        other = new Rule();
        reader = new RuleReader(text);
        now = new State();
        ahead = new State();
        trial = new State();
        past = new Past();
        told = new Row();
        seen = new Seen();
        trace = new long[MOST_SLUICES * LOOKS];
        masks = new int[MOST_BASINS];
        won = new int[Games.STAIRS + 1];
    }

    // ---- basins, sluices

    public int sign(int v) {
        return text.append(v);
    }

    public boolean end(int n) {
        return text.shorten(n);
    }

    public int basins() {
        int wrong = wrongSignOfLines(BASIN_SIGNS, MOST_BASINS - canals.basinCount, false);
        int lines = wrong == GOOD ? (text.size + 1) / LINE : 0;
        for (int i = 0; i < lines; i++) {
            addBasin(i * LINE);
        }
        return endOfLines(wrong, lines);
    }

    public int sluices() {
        int wrong = wrongSignOfLines(SLUICE_SIGNS, MOST_SLUICES - canals.sluiceCount, true);
        int lines = wrong == GOOD ? (text.size + 1) / LINE : 0;
        for (int i = 0; i < lines; i++) {
            int p = i * LINE;
            canals.addSluice(text.digit(p), text.digit(p + 1), kindOf(text.at(p + 2)));
        }
        return endOfLines(wrong, lines);
    }

    private int endOfLines(int wrong, int lines) {
        text.clear();
        if (lines > 0) {
            past.forgetAll();
        }
        return wrong == GOOD ? lines : -1 - wrong;
    }

    private void addBasin(int p) {
        int basin = canals.basinCount;
        if (basin < MOST_BASINS) {
            now.level[basin] = text.digit(p);
            now.mark[basin] = text.digit(p + 1);
            canals.addBasin(text.at(p + 2) == '!');
        }
    }

    /** The place of the first sign that can't stand in LINES, or GOOD. */
    private int wrongSignOfLines(int longest, int room, boolean ofSluices) {
        if (text.size == 0) {
            return GOOD;
        }
        for (int p = 0; p < text.size; p++) {
            boolean noRoom = p % LINE == 0 && p / LINE >= room;
            if (p == longest || noRoom) {
                return p;
            }
            if (!(ofSluices ? standsInSluice(p) : standsInBasin(p))) {
                return p;
            }
        }
        return text.size % LINE == LINE - 1 ? GOOD : text.size;
    }

    private boolean standsInBasin(int p) {
        int sign = text.at(p);
        switch (p % LINE) {
            case 0:
            case 1:
                return text.isDigit(p);
            case 2:
                return sign == '.' || sign == '!';
            default:
                return sign == ';';
        }
    }

    private boolean standsInSluice(int p) {
        int sign = text.at(p);
        switch (p % LINE) {
            case 0:
                return text.isDigit(p) && canals.hasBasin(text.digit(p));
            case 1:
                return text.isDigit(p) && canals.hasBasin(text.digit(p)) && sign != text.at(p - 1);
            case 2:
                return kindOf(sign) != NONE;
            default:
                return sign == ';';
        }
    }

    private static int kindOf(int sign) {
        switch (sign) {
            case 'g':
                return Canals.GATE;
            case 'w':
                return Canals.WEIR;
            case 's':
                return Canals.SIPHON;
            default:
                return NONE;
        }
    }

    public int rule() {
        int wrong = reader.read(other);
        text.clear();
        if (wrong != GOOD) {
            return -1 - wrong;
        }
        rule.takes(other);
        return 0;
    }

    public int basin(int basin, int what) throws NoSuchElementException {
        if (!canals.hasBasin(basin) || what < 0 || what > 4) {
            throw new NoSuchElementException("no such basin, or nothing such of it");
        }
        switch (what) {
            case 0:
                return now.level[basin];
            case 1:
                return now.mark[basin];
            case 2:
                return canals.leaks(basin) ? 1 : 0;
            case 3:
                return canals.sluicesFrom(basin);
            default:
                return canals.sluicesTo(basin);
        }
    }

    public int sluice(int sluice, int what) throws NoSuchElementException {
        if (!canals.hasSluice(sluice) || what < 0 || what > 5) {
            throw new NoSuchElementException("no such sluice, or nothing such of it");
        }
        switch (what) {
            case 0:
                return canals.from[sluice];
            case 1:
                return canals.to[sluice];
            case 2:
                return canals.kind[sluice];
            case 3:
                return now.on >> sluice & 1;
            case 4:
                return now.stuck >> sluice & 1;
            default:
                return canals.flow(now, rule, sluice);
        }
    }

    public int sheet(int kind, int n, int f, int step) {
        if (kind < 0 || kind > 3 || n > MOST_BASINS) {
            return NONE;
        }
        if (kind < 3 && n < 0) {
            return CANT;
        }
        int entries = kind == 3 ? 0 : n;
        for (int i = 0; i < canals.basinCount; i++) {
            now.level[i] = i < entries ? entryOfSheet(kind, f + i * step) : 0;
        }
        return kind == 3 ? MISSING : together(now);
    }

    private static int entryOfSheet(int kind, int v) {
        int entry = kind == 0 ? (byte) v : kind == 1 ? (short) v : v;
        return Math.max(0, Math.min(FULL, entry));
    }

    // ---- hours, keepers

    public int hours(int n) {
        int answer = actThatCanBeUndone('n', n, 0);
        if (answer >= 0) {
            told.begin();
            told.add(canals.gone);
            told.add(canals.leaked);
        }
        return answer;
    }

    public int pours(int basin, int n) {
        return actThatCanBeUndone('p', basin, n);
    }

    public int lets(int basin, int n) {
        return actThatCanBeUndone('l', basin, n);
    }

    public int boats(int sluice) {
        return actThatCanBeUndone('b', sluice, 0);
    }

    public int sticks(int sluice) {
        return actThatCanBeUndone('k', sluice, 0);
    }

    public int marks(int basin, int v) {
        return actThatCanBeUndone('m', basin, v);
    }

    private int actThatCanBeUndone(int kind, int x, int y) {
        ahead.takes(now);
        int answer = act(kind, x, y);
        boolean nothing = kind == 'n' && x == 0;
        if (answer >= 0 && !nothing) {
            past.push(ahead);
        }
        return answer;
    }

    private int act(int kind, int x, int y) {
        switch (kind) {
            case 'n':
                return letHoursPass(x);
            case 'p':
                return pour(x, y);
            case 'l':
                return letOut(x, y);
            case 'b':
                return sendBoat(x);
            case 'k':
                return stick(x);
            case 'm':
                return setMark(x, y);
            default:
                return NONE;
        }
    }

    private int letHoursPass(int n) {
        if (n < 0 || n > HOURS_DONE) {
            return NONE;
        }
        canals.begin();
        for (int h = 0; h < n; h++) {
            canals.pass(now, rule);
        }
        return together(now);
    }

    private int pour(int basin, int n) {
        if (!canals.hasBasin(basin) || n < 1 || n > FULL) {
            return NONE;
        }
        return canals.fill(now, basin, n) ? now.level[basin] : CANT;
    }

    private int letOut(int basin, int n) {
        if (!canals.hasBasin(basin) || n < 1 || n > FULL) {
            return NONE;
        }
        if (now.level[basin] < n) {
            return CANT;
        }
        now.level[basin] -= n;
        return now.level[basin];
    }

    private int sendBoat(int sluice) {
        if (!canals.hasSluice(sluice)) {
            return NONE;
        }
        return canals.carry(now, sluice) ? now.level[canals.to[sluice]] : CANT;
    }

    private int stick(int sluice) {
        if (!canals.hasSluice(sluice)) {
            return NONE;
        }
        now.stuck ^= 1 << sluice;
        return now.stuck;
    }

    private int setMark(int basin, int v) {
        if (!canals.hasBasin(basin) || v < 0 || v > FULL) {
            return NONE;
        }
        int was = now.mark[basin];
        if (was == v) {
            return CANT;
        }
        now.mark[basin] = v;
        return 10 + was;
    }

    public int night() {
        int wrong = wrongSignOfNight();
        if (wrong != GOOD) {
            text.clear();
            return -1 - wrong;
        }
        ahead.takes(now);
        int done = 0;
        boolean stopped = false;
        for (int p = 0; p < text.size && !stopped; p += Math.max(1, signsOfAct(text.at(p)))) {
            stopped = act(text.at(p), text.digit(p + 1), text.digit(p + 2)) < 0;
            done += stopped ? 0 : 1;
        }
        text.clear();
        if (done > 0) {
            past.push(ahead);
        }
        told.begin();
        told.add(stopped ? 1 : 0);
        told.add(together(now));
        return done;
    }

    /** The place of the first sign that can't stand in A NIGHT, or GOOD. */
    private int wrongSignOfNight() {
        int kind = 0;
        int column = 0;
        for (int p = 0; p < text.size; p++) {
            if (p == NIGHT_SIGNS) {
                return p;
            }
            if (column == 0) {
                kind = text.at(p);
            }
            if (!standsInAct(kind, column, p)) {
                return p;
            }
            column = column + 1 == signsOfAct(kind) ? 0 : column + 1;
        }
        return column == 0 ? GOOD : text.size;
    }

    private boolean standsInAct(int kind, int column, int p) {
        if (column == 0) {
            return signsOfAct(kind) > 0;
        }
        boolean amount = column == 2 && kind != 'm';
        return text.isDigit(p) && !(amount && text.at(p) == '0');
    }

    private static int signsOfAct(int kind) {
        switch (kind) {
            case 'n':
            case 'b':
            case 'k':
                return 2;
            case 'p':
            case 'l':
            case 'm':
                return 3;
            default:
                return 0;
        }
    }

    public int undo() {
        return past.pop(now);
    }

    // ---- later

    public int later(int basin, int n) {
        if (!canals.hasBasin(basin) || n < 0 || n > HOURS_AHEAD) {
            return NONE;
        }
        startTrial();
        canals.run(trial, rule, n);
        told.begin();
        told.add(together(trial));
        told.add(trial.on);
        return trial.level[basin];
    }

    public int marked(int basin) {
        if (!canals.hasBasin(basin)) {
            return NONE;
        }
        startTrial();
        int first = CANT;
        int times = 0;
        for (int h = 0; h <= HOURS_AHEAD; h++) {
            if (trial.isAtMark(basin)) {
                first = first == CANT ? h : first;
                times++;
            }
            canals.pass(trial, rule);
        }
        if (first != CANT) {
            told.begin();
            told.add(times);
        }
        return first;
    }

    public int round() {
        traceTrial(HOURS_AHEAD);
        for (int i = 1; i <= HOURS_AHEAD; i++) {
            for (int j = 0; j < i; j++) {
                if (trace[i] == trace[j]) {
                    told.begin();
                    told.add(j);
                    told.add(differentSums(j, i));
                    return i;
                }
            }
        }
        return CANT;
    }

    private int differentSums(int from, int till) {
        long sums = 0;
        for (int i = from; i < till; i++) {
            sums |= 1L << State.sumOf(trace[i]);
        }
        return Long.bitCount(sums);
    }

    public int still() {
        traceTrial(HOURS_AHEAD + 1);
        int unchanged = 0;
        for (int i = 1; i <= HOURS_AHEAD + 1; i++) {
            boolean same = State.levelsOf(trace[i]) == State.levelsOf(trace[i - 1]);
            unchanged = same ? unchanged + 1 : 0;
            if (unchanged == 4) {
                told.begin();
                told.add(State.sumOf(trace[i]));
                return i - 4;
            }
        }
        return CANT;
    }

    /** Puts into the trace how all is behind 0, 1, .. n HOURS. */
    private void traceTrial(int n) {
        startTrial();
        for (int h = 0; h <= n && h < trace.length; h++) {
            trace[h] = trial.code();
            canals.pass(trial, rule);
        }
    }

    public int busiest(int n) {
        if (n < 1 || n > HOURS_AHEAD) {
            return NONE;
        }
        if (canals.sluiceCount == 0) {
            return CANT;
        }
        startTrial();
        canals.run(trial, rule, n);
        int best = 0;
        for (int i = 1; i < canals.sluiceCount; i++) {
            best = canals.through[i] > canals.through[best] ? i : best;
        }
        told.begin();
        told.add(canals.through[best]);
        told.add(canals.gone);
        return best;
    }

    public int high(int n) {
        if (n < 0 || n > HOURS_AHEAD) {
            return NONE;
        }
        if (canals.basinCount == 0) {
            return CANT;
        }
        startTrial();
        int highest = -1;
        for (int h = 0; h <= n; h++) {
            for (int i = 0; i < canals.basinCount; i++) {
                if (trial.level[i] > highest) {
                    highest = trial.level[i];
                    told.begin();
                    told.add(i);
                    told.add(h);
                }
            }
            canals.pass(trial, rule);
        }
        return highest;
    }

    private void startTrial() {
        trial.takes(now);
        canals.begin();
    }

    private int together(State state) {
        int sum = 0;
        for (int i = 0; i < canals.basinCount; i++) {
            sum += state.level[i];
        }
        return sum;
    }

    // ---- quarters that compute

    public int table(int a, int b, int c, int n) {
        if (!areQuarter(a, b, c) || n < 0 || n > HOURS_SENT) {
            return NONE;
        }
        told.begin();
        int bits = 0;
        for (int sent = 0; sent < 4; sent++) {
            startSent(a, b, sent);
            canals.run(trial, rule, n);
            bits |= trial.isAtMark(c) ? 1 << sent : 0;
            told.add(trial.level[c]);
        }
        return bits;
    }

    public int quarters(int t, int n) {
        if (t < 0 || t > 15 || n < 0 || n > HOURS_SENT) {
            return NONE;
        }
        told.begin();
        int found = 0;
        for (int a = 0; a < canals.basinCount; a++) {
            for (int b = a + 1; b < canals.basinCount; b++) {
                putTablesIntoMasks(a, b, n);
                for (int c = 0; c < canals.basinCount; c++) {
                    if (masks[c] == t) {
                        tellFirstQuarter(found, a, b, c);
                        found++;
                    }
                }
            }
        }
        return found;
    }

    private void tellFirstQuarter(int found, int a, int b, int c) {
        if (found == 0) {
            told.add(a);
            told.add(b);
            told.add(c);
        }
    }

    private void putTablesIntoMasks(int a, int b, int n) {
        clearMasks();
        for (int sent = 0; sent < 4; sent++) {
            startSent(a, b, sent);
            canals.run(trial, rule, n);
            for (int c = 0; c < canals.basinCount; c++) {
                masks[c] |= trial.isAtMark(c) ? 1 << sent : 0;
            }
        }
    }

    public int learns(int a, int b, int c, int t) {
        if (!areQuarter(a, b, c) || t < 0 || t > 15) {
            return NONE;
        }
        putTablesIntoTrace(a, b, c);
        int first = CANT;
        int times = 0;
        for (int h = 0; h <= HOURS_SENT; h++) {
            if (trace[h] == t) {
                first = first == CANT ? h : first;
                times++;
            }
        }
        if (first != CANT) {
            told.begin();
            told.add(times);
        }
        return first;
    }

    private void putTablesIntoTrace(int a, int b, int c) {
        for (int sent = 0; sent < 4; sent++) {
            startSent(a, b, sent);
            for (int h = 0; h <= HOURS_SENT; h++) {
                long bit = trial.isAtMark(c) ? 1L << sent : 0L;
                trace[h] = (sent == 0 ? 0L : trace[h]) | bit;
                canals.pass(trial, rule);
            }
        }
    }

    private boolean areQuarter(int a, int b, int c) {
        return canals.hasBasin(a) && canals.hasBasin(b) && canals.hasBasin(c) && a != b;
    }

    private void startSent(int a, int b, int sent) {
        startTrial();
        trial.level[a] = (sent & 1) != 0 ? FULL : 0;
        trial.level[b] = (sent & 2) != 0 ? FULL : 0;
    }

    private void clearMasks() {
        for (int i = 0; i < MOST_BASINS; i++) {
            masks[i] = 0;
        }
    }

    // ---- words

    public int words(int a, int b, int n) {
        if (!canals.hasBasin(a) || !canals.hasBasin(b) || a == b || n < 0 || n > HOURS_SENT) {
            return NONE;
        }
        told.begin();
        int levels = 0;
        for (int v = 0; v <= FULL; v++) {
            runWithLevel(a, v, n);
            levels |= 1 << trial.level[b];
            told.add(trial.level[b]);
        }
        return Integer.bitCount(levels);
    }

    public int hears(int a, int n) {
        if (!canals.hasBasin(a) || n < 0 || n > HOURS_SENT) {
            return NONE;
        }
        if (canals.basinCount == 1) {
            return CANT;
        }
        clearMasks();
        for (int v = 0; v <= FULL; v++) {
            runWithLevel(a, v, n);
            for (int b = 0; b < canals.basinCount; b++) {
                masks[b] |= 1 << trial.level[b];
            }
        }
        int best = a == 0 ? 1 : 0;
        for (int b = best + 1; b < canals.basinCount; b++) {
            boolean more = Integer.bitCount(masks[b]) > Integer.bitCount(masks[best]);
            best = b != a && more ? b : best;
        }
        told.begin();
        told.add(Integer.bitCount(masks[best]));
        return best;
    }

    public int drought(int a, int b, int n) {
        if (!canals.hasBasin(a) || !canals.hasBasin(b) || n < 0 || n > HOURS_SENT) {
            return NONE;
        }
        int least = CANT;
        int times = 0;
        for (int v = 0; v <= FULL; v++) {
            runWithLevel(a, v, n);
            if (trial.isAtMark(b)) {
                least = least == CANT ? v : least;
                times++;
            }
        }
        if (least != CANT) {
            told.begin();
            told.add(times);
        }
        return least;
    }

    private void runWithLevel(int a, int v, int n) {
        startTrial();
        trial.level[a] = v;
        canals.run(trial, rule, n);
    }

    // ---- which is stuck

    public int saw(int basin, int n, int v) {
        if (!canals.hasBasin(basin) || n < 0 || n > HOURS_SEEN || v < 0 || v > FULL) {
            return NONE;
        }
        return seen.add(basin, n, v);
    }

    public int forget() {
        return seen.clear();
    }

    public int fits() {
        int fitting = fittingSluices();
        boolean none = isAsSeen(0);
        told.begin();
        told.add(Integer.bitCount(fitting));
        told.add(none ? 1 : 0);
        return fitting;
    }

    private int fittingSluices() {
        int fitting = 0;
        for (int i = 0; i < canals.sluiceCount; i++) {
            if ((now.stuck >> i & 1) == 0 && isAsSeen(1 << i)) {
                fitting |= 1 << i;
            }
        }
        return fitting;
    }

    private boolean isAsSeen(int stuckToo) {
        startTrial();
        trial.stuck |= stuckToo;
        int last = seen.lastHour();
        for (int h = 0; h <= last; h++) {
            if (!seen.agrees(trial, h)) {
                return false;
            }
            canals.pass(trial, rule);
        }
        return true;
    }

    public int looks() {
        int fitting = fittingSluices();
        if (fitting == 0) {
            return CANT;
        }
        traceEach(fitting);
        int best = CANT;
        int fewest = FAR;
        for (int look = 0; look < canals.basinCount * LOOKS; look++) {
            int left = mostLeft(fitting, look / LOOKS, look % LOOKS);
            if (left < fewest) {
                fewest = left;
                best = look;
            }
        }
        if (best != CANT) {
            told.begin();
            told.add(fewest);
        }
        return best;
    }

    private void traceEach(int fitting) {
        for (int i = 0; i < canals.sluiceCount; i++) {
            if ((fitting >> i & 1) != 0) {
                startTrial();
                trial.stuck |= 1 << i;
                for (int h = 0; h < LOOKS; h++) {
                    trace[i * LOOKS + h] = trial.code();
                    canals.pass(trial, rule);
                }
            }
        }
    }

    private int mostLeft(int fitting, int basin, int h) {
        int most = 0;
        for (int v = 0; v <= FULL; v++) {
            int left = 0;
            for (int i = 0; i < canals.sluiceCount; i++) {
                boolean isLeft = (fitting >> i & 1) != 0;
                if (isLeft && State.levelOf(trace[i * LOOKS + h], basin) == v) {
                    left++;
                }
            }
            most = Math.max(most, left);
        }
        return most;
    }

    public int needs(int c, int n) {
        if (!canals.hasBasin(c) || n < 0 || n > HOURS_SENT) {
            return NONE;
        }
        int without = levelWithStuck(0, c, n);
        int needed = 0;
        for (int i = 0; i < canals.sluiceCount; i++) {
            if ((now.stuck >> i & 1) == 0 && levelWithStuck(1 << i, c, n) != without) {
                needed |= 1 << i;
            }
        }
        told.begin();
        told.add(Integer.bitCount(needed));
        return needed;
    }

    private int levelWithStuck(int stuckToo, int c, int n) {
        startTrial();
        trial.stuck |= stuckToo;
        canals.run(trial, rule, n);
        return trial.level[c];
    }

    // ---- nets

    public int reach(int basin) {
        if (!canals.hasBasin(basin)) {
            return NONE;
        }
        int reached = ways.reached(basin, now.stuck);
        told.begin();
        told.add(Integer.bitCount(reached));
        return reached;
    }

    public int way(int from, int to) {
        if (!canals.hasBasin(from) || !canals.hasBasin(to)) {
            return NONE;
        }
        ways.measure(to, now.stuck);
        int fewest = ways.steps[from];
        if (fewest >= FAR) {
            return CANT;
        }
        told.begin();
        ways.walk(from, now.stuck, told);
        return fewest;
    }

    public int cut(int from, int to) {
        if (!canals.hasBasin(from) || !canals.hasBasin(to) || from == to) {
            return NONE;
        }
        int best = ways.leastCut(from, to, now.stuck);
        told.begin();
        told.add(best);
        return Integer.bitCount(best);
    }

    public int ring() {
        int first = NONE;
        int fewest = FAR;
        for (int i = 0; i < canals.sluiceCount; i++) {
            int length = ways.ringLength(i, now.stuck);
            if (length < fewest) {
                fewest = length;
                first = i;
            }
        }
        if (first == NONE) {
            return CANT;
        }
        // The first of the shortest rings' sluices is the least one of its ring:
        // a lesser one in the same ring would have been found ahead of it.
        ways.measure(canals.from[first], now.stuck);
        told.begin();
        told.add(first);
        ways.walk(canals.to[first], now.stuck, told);
        return fewest;
    }

    // ---- boats

    public int order() {
        int boats = Math.min(canals.sluiceCount, Turns.MOST);
        turns.begin(boats);
        int most = -1;
        boolean more = true;
        for (int i = 0; i < Turns.ORDERS && more && most < boats; i++) {
            int going = boatsThatGo(boats);
            if (going > most) {
                most = going;
                turns.holdBest();
            }
            more = turns.next();
        }
        told.begin();
        for (int i = 0; i < boats; i++) {
            told.add(turns.best[i]);
        }
        return Math.max(0, most);
    }

    private int boatsThatGo(int boats) {
        trial.takes(now);
        int going = 0;
        for (int i = 0; i < boats; i++) {
            going += canals.carry(trial, turns.turn[i]) ? 1 : 0;
        }
        return going;
    }

    // ---- locks by turns, chances

    public int locks(int a, int b) {
        if (a < 0 || a > Games.STAIRS || b < 0 || b > Games.STAIRS) {
            return NONE;
        }
        Games.fillWon(won, a, b);
        int first = Games.leastWinningMove(won, a, b);
        told.begin();
        if (first == NONE) {
            return 0;
        }
        told.add(first);
        told.add(2 - first);
        return 1;
    }

    public int spoils(int n, int k, int p) {
        if (n < 1 || n > 12 || k < 1 || k > 12 || p < 0 || p > 10) {
            return NONE;
        }
        long upper = Games.choices(n - 1, k - 1) * Games.power(p, k) * Games.power(10 - p, n - k);
        long lower = Games.power(10, n);
        long shared = Games.greatestShared(upper, lower);
        told.begin();
        told.add(shared > 0 ? upper / shared : upper);
        told.add(shared > 0 ? lower / shared : lower);
        return 0;
    }

    // ---- rests, rules, years

    public int rests(int v) {
        if (v < 0 || v > 20) {
            return NONE;
        }
        told.begin();
        int pairs = 0;
        for (int x = 0; x <= FULL; x++) {
            for (int y = 0; y <= FULL; y++) {
                if (Games.isBestAgainst(v, x, y) && Games.isBestAgainst(v, y, x)) {
                    if (pairs == 0) {
                        told.add(x);
                        told.add(y);
                    }
                    pairs++;
                }
            }
        }
        return pairs;
    }

    public int law() {
        int wrong = reader.read(other);
        text.clear();
        if (wrong != GOOD) {
            return LAW_WRONG - wrong;
        }
        startTrial();
        canals.run(trial, rule, LAW_HOURS);
        int byRule = canals.gone;
        startTrial();
        canals.run(trial, other, LAW_HOURS);
        int byOther = canals.gone;
        told.begin();
        told.add(byOther);
        told.add(byRule);
        for (int i = 0; i < canals.basinCount; i++) {
            told.add(trial.level[i]);
        }
        return byOther - byRule;
    }

    public int years(int seed, int n) {
        if (n < 1 || n > 60) {
            return NONE;
        }
        startTrial();
        int r = seed;
        for (int i = 0; i < n; i++) {
            r = drawn(r);
            int what = picked(r, 4);
            if (what < 2) {
                canals.pass(trial, rule);
            } else if (what == 2 && canals.basinCount > 0) {
                r = drawn(r);
                int basin = picked(r, canals.basinCount);
                r = drawn(r);
                canals.fill(trial, basin, picked(r, 3) + 1);
            } else if (what == 3 && canals.sluiceCount > 0) {
                r = drawn(r);
                canals.carry(trial, picked(r, canals.sluiceCount));
            }
        }
        told.begin();
        told.add(canals.gone);
        told.add(canals.leaked);
        return together(trial);
    }

    private static int drawn(int r) {
        return r * 1103515245 + 12345;
    }

    private static int picked(int r, int n) {
        return n > 0 ? (r >>> 16) % n : 0;
    }

    // ---- kept

    public boolean keep(int i) {
        return past.keepUnder(i, now);
    }

    public boolean again(int i) {
        return past.bringBack(i, now);
    }

    public int count(int what) {
        switch (what) {
            case 0:
                return canals.basinCount;
            case 1:
                return canals.sluiceCount;
            case 2:
                return now.hour;
            case 3:
                return now.lost;
            case 4:
                return together(now);
            case 5:
                return marksTogether();
            case 6:
                return now.on;
            case 7:
                return now.stuck;
            case 8:
                return basinsAtMark();
            case 9:
                return seen.size;
            case 10:
                return past.size;
            case 11:
                return told.size;
            case 12:
                return text.size;
            default:
                return NONE;
        }
    }

    private int marksTogether() {
        int sum = 0;
        for (int i = 0; i < canals.basinCount; i++) {
            sum += now.mark[i];
        }
        return sum;
    }

    private int basinsAtMark() {
        int bits = 0;
        for (int i = 0; i < canals.basinCount; i++) {
            bits |= now.isAtMark(i) ? 1 << i : 0;
        }
        return bits;
    }

    public long row(int i) throws NoSuchElementException {
        if (i < 0 || i >= told.size) {
            throw new NoSuchElementException("no such number of the row");
        }
        return told.numbers[i];
    }

    /** THE TEXT. */
    private static final class Text {
        final char[] signs;
        int size;

        Text() {
            signs = new char[MOST_SIGNS];
        }

        int append(int v) {
            if (size > MOST_SIGNS - 4) {
                return NONE;
            }
            for (int shift = 24; shift >= 0; shift -= 8) {
                signs[size] = (char) (v >>> shift & 255);
                size++;
            }
            return size;
        }

        boolean shorten(int n) {
            if (n < 0 || n > size) {
                return false;
            }
            size = n;
            return true;
        }

        int at(int p) {
            return p >= 0 && p < size ? signs[p] : END;
        }

        boolean isDigit(int p) {
            int sign = at(p);
            return sign >= '0' && sign <= '9';
        }

        int digit(int p) {
            return isDigit(p) ? at(p) - '0' : 0;
        }

        void clear() {
            size = 0;
        }
    }

    /** What undo() brings back. */
    private static final class State {
        final int[] level;
        final int[] mark;
        int on;
        int stuck;
        int hour;
        int lost;

        State() {
            level = new int[MOST_BASINS];
            mark = new int[MOST_BASINS];
        }

        void takes(State that) {
            System.arraycopy(that.level, 0, level, 0, MOST_BASINS);
            System.arraycopy(that.mark, 0, mark, 0, MOST_BASINS);
            on = that.on;
            stuck = that.stuck;
            hour = that.hour;
            lost = that.lost;
        }

        boolean isAtMark(int basin) {
            return level[basin] >= mark[basin];
        }

        /** All that round() compares: four bits for a LEVEL, then ON, then the rest of HOUR by 4. */
        long code() {
            long code = (long) (hour & 3) << 8 | on;
            for (int i = MOST_BASINS - 1; i >= 0; i--) {
                code = code << 4 | level[i];
            }
            return code;
        }

        static int levelOf(long code, int basin) {
            return (int) (code >> 4 * basin) & 15;
        }

        static int levelsOf(long code) {
            return (int) code & 0xFFFFFF;
        }

        static int sumOf(long code) {
            int sum = 0;
            for (int i = 0; i < MOST_BASINS; i++) {
                sum += levelOf(code, i);
            }
            return sum;
        }
    }

    /** BASINS and SLUICES as they were told, and how an HOUR goes by. */
    private static final class Canals {
        static final int GATE = 0;
        static final int WEIR = 1;
        static final int SIPHON = 2;
        static final int MOST_LOST = 9999;

        int basinCount;
        int sluiceCount;
        int leaking;
        final int[] from;
        final int[] to;
        final int[] kind;
        final int[] things;
        final int[] through;
        int gone;
        int leaked;

        Canals() {
            from = new int[MOST_SLUICES];
            to = new int[MOST_SLUICES];
            kind = new int[MOST_SLUICES];
            through = new int[MOST_SLUICES];
            things = new int[Rule.THINGS];
        }

        boolean hasBasin(int basin) {
            return basin >= 0 && basin < basinCount;
        }

        boolean hasSluice(int sluice) {
            return sluice >= 0 && sluice < sluiceCount;
        }

        void addBasin(boolean leaks) {
            if (basinCount < MOST_BASINS) {
                leaking |= leaks ? 1 << basinCount : 0;
                basinCount++;
            }
        }

        void addSluice(int source, int target, int type) {
            if (sluiceCount < MOST_SLUICES) {
                from[sluiceCount] = source;
                to[sluiceCount] = target;
                kind[sluiceCount] = type;
                sluiceCount++;
            }
        }

        boolean leaks(int basin) {
            return (leaking >> basin & 1) != 0;
        }

        int sluicesFrom(int basin) {
            int bits = 0;
            for (int i = 0; i < sluiceCount; i++) {
                bits |= from[i] == basin ? 1 << i : 0;
            }
            return bits;
        }

        int sluicesTo(int basin) {
            int bits = 0;
            for (int i = 0; i < sluiceCount; i++) {
                bits |= to[i] == basin ? 1 << i : 0;
            }
            return bits;
        }

        /** From here on it is counted what goes through SLUICES and what leaks. */
        void begin() {
            for (int i = 0; i < MOST_SLUICES; i++) {
                through[i] = 0;
            }
            gone = 0;
            leaked = 0;
        }

        void run(State state, Rule rule, int hours) {
            for (int h = 0; h < hours; h++) {
                pass(state, rule);
            }
        }

        void pass(State state, Rule rule) {
            for (int i = 0; i < sluiceCount; i++) {
                if ((state.stuck >> i & 1) == 0 && opens(state, i)) {
                    int parts = flow(state, rule, i);
                    state.level[from[i]] -= parts;
                    state.level[to[i]] += parts;
                    through[i] += parts;
                    gone += parts;
                }
            }
            leak(state);
            state.hour++;
        }

        private boolean opens(State state, int sluice) {
            int a = state.level[from[sluice]];
            int m = state.mark[from[sluice]];
            if (kind[sluice] == GATE) {
                return a > state.level[to[sluice]];
            }
            if (kind[sluice] == WEIR) {
                return a > m;
            }
            int bit = 1 << sluice;
            if (a >= m) {
                state.on |= bit;
            }
            if (a == 0) {
                state.on &= ~bit;
            }
            return (state.on & bit) != 0;
        }

        private void leak(State state) {
            for (int i = 0; i < basinCount; i++) {
                if (leaks(i) && state.level[i] > 0) {
                    state.level[i]--;
                    state.lost = Math.min(MOST_LOST, state.lost + 1);
                    leaked++;
                }
            }
        }

        int flow(State state, Rule rule, int sluice) {
            int a = state.level[from[sluice]];
            int b = state.level[to[sluice]];
            int most = Math.min(a, FULL - b);
            things[0] = a;
            things[1] = b;
            things[2] = state.mark[from[sluice]];
            things[3] = state.mark[to[sluice]];
            things[4] = sluice;
            things[5] = kind[sluice];
            things[6] = state.hour & 3;
            return most <= 0 ? 0 : Math.max(0, Math.min(most, rule.value(things)));
        }

        /** So much is poured into a BASIN: whether it could be. */
        boolean fill(State state, int basin, int n) {
            if (state.level[basin] + n > FULL) {
                return false;
            }
            state.level[basin] += n;
            return true;
        }

        /** A boat takes one part through a SLUICE: whether it could. */
        boolean carry(State state, int sluice) {
            int source = from[sluice];
            int target = to[sluice];
            if (state.level[source] == 0 || state.level[target] == FULL) {
                return false;
            }
            state.level[source]--;
            state.level[target]++;
            return true;
        }
    }

    /** A RULE, its things ahead of the sign that joins them. */
    private static final class Rule {
        static final int THINGS = 7;
        static final int THING = 1000;
        static final int JOIN = 2000;
        static final int NEGATE = 3000;
        private static final int[] AT_FIRST = {
            1, THING, THING + 1, JOIN + '-', 4, JOIN + '>', JOIN + '+'
        };

        private final int[] code;
        private final int[] stack;
        private int size;

        Rule() {
            code = new int[RULE_SIGNS];
            stack = new int[RULE_SIGNS];
            becomesNone();
        }

        void takes(Rule that) {
            System.arraycopy(that.code, 0, code, 0, RULE_SIGNS);
            size = that.size;
        }

        void becomesNone() {
            size = AT_FIRST.length;
            System.arraycopy(AT_FIRST, 0, code, 0, AT_FIRST.length);
        }

        void begin() {
            size = 0;
        }

        void add(int word) {
            if (size < RULE_SIGNS) {
                code[size] = word;
                size++;
            }
        }

        void changeLast(int word) {
            if (size > 0) {
                code[size - 1] = word;
            }
        }

        int value(int[] things) {
            int top = 0;
            for (int i = 0; i < size; i++) {
                int word = code[i];
                if (word < JOIN && top < RULE_SIGNS) {
                    stack[top] = valueOfThing(word, things);
                    top++;
                } else if (word == NEGATE && top > 0) {
                    stack[top - 1] = -stack[top - 1];
                } else if (top > 1) {
                    top--;
                    stack[top - 1] = joined(word - JOIN, stack[top - 1], stack[top]);
                }
            }
            return stack[0];
        }

        private static int valueOfThing(int word, int[] things) {
            int thing = word - THING;
            return thing >= 0 && thing < things.length ? things[thing] : word;
        }

        private static int joined(int sign, int left, int right) {
            switch (sign) {
                case '+':
                    return left + right;
                case '-':
                    return left - right;
                case '*':
                    return left * right;
                case '/':
                    return right == 0 ? 0 : left / right;
                case '<':
                    return left < right ? 1 : 0;
                case '>':
                    return left > right ? 1 : 0;
                default:
                    return left == right ? 1 : 0;
            }
        }
    }

    /** Reads THE TEXT as a RULE, sign by sign. */
    private static final class RuleReader {
        private static final int MOST_OPEN = 4;
        private static final int MOST_DIGITS = 3;
        private static final int BRACKET = 0;
        private static final int COMPARING = 1;
        private static final int ADDING = 2;
        private static final int MULTIPLYING = 3;
        private static final int NEGATING = 4;

        private final Text text;
        private final int[] waiting;
        private int waits;
        private int open;
        private int compared;
        private int digits;
        private int number;
        private boolean wantsThing;

        RuleReader(Text text) {
            this.text = text;
            waiting = new int[RULE_SIGNS];
        }

        /** The place of the first sign that can't stand in a RULE, or GOOD. */
        int read(Rule into) {
            if (text.size == 0) {
                into.becomesNone();
                return GOOD;
            }
            into.begin();
            waits = 0;
            open = 0;
            compared = 0;
            digits = 0;
            wantsThing = true;
            for (int p = 0; p < text.size; p++) {
                if (p == RULE_SIGNS || !stands(into, text.at(p))) {
                    return p;
                }
            }
            settle(into, COMPARING);
            return wantsThing || open > 0 ? text.size : GOOD;
        }

        private boolean stands(Rule into, int sign) {
            if (sign >= '0' && sign <= '9') {
                return standsAsDigit(into, sign - '0');
            }
            digits = 0;
            return wantsThing ? standsAheadOfThing(into, sign) : standsBehindThing(into, sign);
        }

        private boolean standsAsDigit(Rule into, int digit) {
            if (wantsThing) {
                wantsThing = false;
                digits = 1;
                number = digit;
                into.add(number);
                return true;
            }
            if (digits == 0 || digits == MOST_DIGITS) {
                return false;
            }
            digits++;
            number = number * 10 + digit;
            into.changeLast(number);
            return true;
        }

        private boolean standsAheadOfThing(Rule into, int sign) {
            if (sign == '-') {
                hold(Rule.NEGATE);
                return true;
            }
            if (sign == '(') {
                return opens();
            }
            int thing = thingOf(sign);
            if (thing == NONE) {
                return false;
            }
            into.add(Rule.THING + thing);
            wantsThing = false;
            return true;
        }

        private boolean opens() {
            if (open == MOST_OPEN) {
                return false;
            }
            open++;
            compared &= ~(1 << open);
            hold(Rule.JOIN + '(');
            return true;
        }

        private boolean standsBehindThing(Rule into, int sign) {
            if (sign == ')') {
                return closes(into);
            }
            int binding = bindingOf(Rule.JOIN + sign);
            boolean again = binding == COMPARING && (compared >> open & 1) != 0;
            if (binding == BRACKET || again) {
                return false;
            }
            compared |= binding == COMPARING ? 1 << open : 0;
            settle(into, binding);
            hold(Rule.JOIN + sign);
            wantsThing = true;
            return true;
        }

        private boolean closes(Rule into) {
            if (open == 0) {
                return false;
            }
            settle(into, COMPARING);
            waits = Math.max(0, waits - 1);
            open--;
            return true;
        }

        private void hold(int word) {
            if (waits < RULE_SIGNS) {
                waiting[waits] = word;
                waits++;
            }
        }

        /** What waits and binds as much or more has both its things by now. */
        private void settle(Rule into, int binding) {
            while (waits > 0 && bindingOf(waiting[waits - 1]) >= binding) {
                waits--;
                into.add(waiting[waits]);
            }
        }

        private static int bindingOf(int word) {
            switch (word) {
                case Rule.NEGATE:
                    return NEGATING;
                case Rule.JOIN + '*':
                case Rule.JOIN + '/':
                    return MULTIPLYING;
                case Rule.JOIN + '+':
                case Rule.JOIN + '-':
                    return ADDING;
                case Rule.JOIN + '<':
                case Rule.JOIN + '>':
                case Rule.JOIN + '=':
                    return COMPARING;
                default:
                    return BRACKET;
            }
        }

        private static int thingOf(int sign) {
            switch (sign) {
                case 'a':
                    return 0;
                case 'b':
                    return 1;
                case 'm':
                    return 2;
                case 'k':
                    return 3;
                case 's':
                    return 4;
                case 't':
                    return 5;
                case 'n':
                    return 6;
                default:
                    return NONE;
            }
        }
    }

    /** What can be undone, and what was kept. */
    private static final class Past {
        private static final int MOST_UNDONE = 12;
        private static final int MOST_KEPT = 2;

        private final State[] states;
        private final State[] kept;
        private final boolean[] isKept;
        int size;

        Past() {
            states = new State[MOST_UNDONE];
            for (int i = 0; i < MOST_UNDONE; i++) {
                states[i] = new State();
            }
            kept = new State[MOST_KEPT];
            for (int i = 0; i < MOST_KEPT; i++) {
                kept[i] = new State();
            }
            isKept = new boolean[MOST_KEPT];
        }

        void push(State state) {
            if (size == MOST_UNDONE) {
                dropOldest();
            }
            states[size].takes(state);
            size++;
        }

        private void dropOldest() {
            State oldest = states[0];
            for (int i = 1; i < MOST_UNDONE; i++) {
                states[i - 1] = states[i];
            }
            states[MOST_UNDONE - 1] = oldest;
            size--;
        }

        int pop(State into) {
            if (size == 0) {
                return NONE;
            }
            size--;
            into.takes(states[size]);
            return size;
        }

        boolean keepUnder(int i, State state) {
            if (i < 0 || i >= MOST_KEPT) {
                return false;
            }
            kept[i].takes(state);
            isKept[i] = true;
            return true;
        }

        boolean bringBack(int i, State into) {
            if (i < 0 || i >= MOST_KEPT || !isKept[i]) {
                return false;
            }
            into.takes(kept[i]);
            size = 0;
            return true;
        }

        void forgetAll() {
            size = 0;
            for (int i = 0; i < MOST_KEPT; i++) {
                isKept[i] = false;
            }
        }
    }

    /** The ROW. */
    private static final class Row {
        private static final int MOST_NUMBERS = 16;

        final long[] numbers;
        int size;

        Row() {
            numbers = new long[MOST_NUMBERS];
        }

        void begin() {
            size = 0;
        }

        void add(long number) {
            if (size < MOST_NUMBERS) {
                numbers[size] = number;
                size++;
            }
        }
    }

    /** What was seen. */
    private static final class Seen {
        private static final int MOST_SEEN = 10;

        private final int[] basin;
        private final int[] hour;
        private final int[] level;
        int size;

        Seen() {
            basin = new int[MOST_SEEN];
            hour = new int[MOST_SEEN];
            level = new int[MOST_SEEN];
        }

        int add(int b, int n, int v) {
            if (size >= MOST_SEEN) {
                return NONE;
            }
            basin[size] = b;
            hour[size] = n;
            level[size] = v;
            size++;
            return size;
        }

        int clear() {
            int was = size;
            size = 0;
            return was;
        }

        /** The last HOUR of which something was seen, or NONE. */
        int lastHour() {
            int last = NONE;
            for (int i = 0; i < size; i++) {
                last = Math.max(last, hour[i]);
            }
            return last;
        }

        boolean agrees(State state, int h) {
            for (int i = 0; i < size; i++) {
                if (hour[i] == h && state.level[basin[i]] != level[i]) {
                    return false;
                }
            }
            return true;
        }
    }

    /** Ways by SLUICES that are not closed (bits). */
    private static final class Ways {
        private final Canals canals;
        final int[] steps;

        Ways(Canals canals) {
            this.canals = canals;
            steps = new int[MOST_BASINS];
        }

        private static boolean isOpen(int sluice, int closed) {
            return (closed >> sluice & 1) == 0;
        }

        int reached(int basin, int closed) {
            int set = 1 << basin;
            for (int round = 0; round < MOST_BASINS; round++) {
                for (int i = 0; i < canals.sluiceCount; i++) {
                    if (isOpen(i, closed) && (set >> canals.from[i] & 1) != 0) {
                        set |= 1 << canals.to[i];
                    }
                }
            }
            return set;
        }

        /** Puts into steps how many SLUICES it is from each BASIN to one, FAR without a way. */
        void measure(int target, int closed) {
            for (int i = 0; i < MOST_BASINS; i++) {
                steps[i] = i == target ? 0 : FAR;
            }
            for (int round = 0; round < MOST_BASINS; round++) {
                for (int i = 0; i < canals.sluiceCount; i++) {
                    int length = steps[canals.to[i]] + 1;
                    if (isOpen(i, closed) && length < steps[canals.from[i]]) {
                        steps[canals.from[i]] = length;
                    }
                }
            }
        }

        /** Tells the least of the shortest ways from a BASIN to the one that was measured. */
        void walk(int basin, int closed, Row told) {
            int at = basin;
            for (int i = 0; i < MOST_BASINS && steps[at] > 0; i++) {
                int sluice = leastAhead(at, closed);
                if (sluice == NONE) {
                    return;
                }
                told.add(sluice);
                at = canals.to[sluice];
            }
        }

        private int leastAhead(int at, int closed) {
            for (int i = 0; i < canals.sluiceCount; i++) {
                boolean ahead = canals.from[i] == at && steps[canals.to[i]] == steps[at] - 1;
                if (ahead && isOpen(i, closed)) {
                    return i;
                }
            }
            return NONE;
        }

        /** The fewest open SLUICES without which there is no way; sets are tried from the least on. */
        int leastCut(int source, int target, int closed) {
            int best = (1 << canals.sluiceCount) - 1 & ~closed;
            for (int set = 0; set < 1 << canals.sluiceCount; set++) {
                boolean fewer = Integer.bitCount(set) < Integer.bitCount(best);
                if (fewer && (set & closed) == 0) {
                    boolean cuts = (reached(source, closed | set) >> target & 1) == 0;
                    best = cuts ? set : best;
                }
            }
            return best;
        }

        int ringLength(int sluice, int closed) {
            if (!isOpen(sluice, closed)) {
                return FAR;
            }
            measure(canals.from[sluice], closed);
            return steps[canals.to[sluice]] + 1;
        }
    }

    /** Orders of boats, one behind another from the least row on. */
    private static final class Turns {
        static final int MOST = 6;
        static final int ORDERS = 720;

        final int[] turn;
        final int[] best;
        private int size;

        Turns() {
            turn = new int[MOST];
            best = new int[MOST];
        }

        void begin(int boats) {
            size = Math.min(boats, MOST);
            for (int i = 0; i < size; i++) {
                turn[i] = i;
                best[i] = i;
            }
        }

        void holdBest() {
            System.arraycopy(turn, 0, best, 0, MOST);
        }

        /** Goes on to the next greater order: whether there is one. */
        boolean next() {
            int i = size - 2;
            while (i >= 0 && turn[i] > turn[i + 1]) {
                i--;
            }
            if (i < 0) {
                return false;
            }
            int j = size - 1;
            while (j > i && turn[j] < turn[i]) {
                j--;
            }
            swap(i, j);
            for (int low = i + 1, top = size - 1; low < top; low++, top--) {
                swap(low, top);
            }
            return true;
        }

        private void swap(int i, int j) {
            int held = turn[i];
            turn[i] = turn[j];
            turn[j] = held;
        }
    }

    /** Locks by turns, chances and rests, which ask nothing of the town. */
    private static final class Games {
        static final int STAIRS = 20;

        /** Bit y of won[x]: who is to move wins with stairs of x and y. */
        static void fillWon(int[] won, int a, int b) {
            for (int x = 0; x <= a && x < won.length; x++) {
                won[x] = 0;
                for (int y = 0; y <= b; y++) {
                    won[x] |= leastWinningMove(won, x, y) != NONE ? 1 << y : 0;
                }
            }
        }

        /** How many of the first stair the least winning move opens, or NONE. */
        static int leastWinningMove(int[] won, int x, int y) {
            for (int first = 0; first <= 2; first++) {
                int left = x - first;
                int right = y - 2 + first;
                boolean can = left >= 0 && left < won.length && right >= 0;
                if (can && (won[left] >> right & 1) == 0) {
                    return first;
                }
            }
            return NONE;
        }

        static long choices(int n, int k) {
            if (k > n) {
                return 0;
            }
            long answer = 1;
            for (int i = 1; i <= k; i++) {
                answer = answer * (n - k + i) / i;
            }
            return answer;
        }

        static long power(long base, int exponent) {
            long answer = 1;
            for (int i = 0; i < exponent; i++) {
                answer *= base;
            }
            return answer;
        }

        static long greatestShared(long upper, long lower) {
            long big = lower;
            long small = upper;
            for (int i = 0; i < FAR && small > 0; i++) {
                long rest = big % small;
                big = small;
                small = rest;
            }
            return big;
        }

        /** Whether one who leaves x against y would not have more by another number. */
        static boolean isBestAgainst(int v, int x, int y) {
            int has = gain(v, x, y);
            for (int z = 0; z <= FULL; z++) {
                if (gain(v, z, y) > has) {
                    return false;
                }
            }
            return true;
        }

        private static int gain(int v, int x, int y) {
            int prize = x == y ? v / 2 : x > y ? v / 4 : 0;
            return prize - (x + 1) / 2;
        }
    }
}
