import java.util.NoSuchElementException;

/**
 * Marks of speech on parallel tiers. What each call answers and changes stands in the document, by
 * the numbers of its promises; the names here are those of its terms.
 */
public final class SpeechTiers {
    public static final int NONE = -1;

    private static final int FREE = 0;
    private static final int CUT = 1;
    private static final int IN = 2;
    private static final int POINTS = 3;

    private static final int LAST_TIME = 999;
    private static final int MOST_TIERS = 6;
    private static final int MOST_MARKS = 40;
    private static final int MOST_TIMES = 2 * MOST_MARKS;
    private static final int MOST_STOPS = MOST_TIERS * MOST_TIMES;
    private static final int MOST_BYTES = 400;
    private static final int MOST_ACTS = 12;
    private static final int BYTES_A_FEED = 20;
    private static final int NAME_LETTERS = 6;
    private static final int LABEL_LETTERS = 4;
    private static final int LETTER_BITS = 5;
    private static final int LETTERS = 26;

    // One pair outweighs all that 80 pairs can be apart, so that one number orders by both.
    private static final int PAIR = 100_000;

    private final Sheet now;
    private final Sheet theOther;
    private boolean kept;
    private final History past;
    private final Reader reader;
    private final Times stops;
    private final Times here;
    private final Times there;
    private final int[] bestPairs;
    private int refusedMissing;
    private int refusedArgument;
    private int refusedState;

    public SpeechTiers() {
        now = new Sheet();
        theOther = new Sheet();
        past = new History();
        reader = new Reader();
        stops = new Times(MOST_STOPS);
        here = new Times(MOST_TIMES);
        there = new Times(MOST_TIMES);
        bestPairs = new int[MOST_TIMES + 1];
    }

    // ---- the text

    public int feed(int a, int b, int c, int d, int e) {
        if (reader.taped + BYTES_A_FEED > MOST_BYTES) {
            return NONE;
        }
        reader.appendNumber(a);
        reader.appendNumber(b);
        reader.appendNumber(c);
        reader.appendNumber(d);
        reader.appendNumber(e);
        return reader.taped;
    }

    public int text(int n) throws IllegalArgumentException {
        needRange(n, 0, reader.taped);
        if (!reader.readText(n)) {
            return reader.fault - 10;
        }
        now.copyFrom(reader.sheet);
        past.forget();
        return now.countMarks();
    }

    public int fault() {
        return reader.faultPlace;
    }

    // ---- the edits

    public int put(int tier, int from, int to)
            throws NoSuchElementException, IllegalArgumentException, IllegalStateException {
        needTier(tier);
        needSpan(from, to);
        needState(now.allowsMark(tier, from, to) && now.hasRoomForMark(tier));
        past.remember(now);
        return now.addMark(tier, from, to);
    }

    public int point(int tier, int time)
            throws NoSuchElementException, IllegalArgumentException, IllegalStateException {
        needTier(tier);
        needTime(time);
        needState(now.allowsPoint(tier, time) && !now.rows[tier].isFull());
        past.remember(now);
        return now.rows[tier].insert(time, time, 0);
    }

    public int take(int tier, int mark) throws NoSuchElementException, IllegalStateException {
        needMark(tier, mark);
        int kind = now.rows[tier].kind;
        if (kind == CUT) {
            int heir = now.heirOf(tier, mark);
            needState(heir != NONE);
            past.remember(now);
            now.removePiece(tier, mark, heir);
            return 1;
        }
        past.remember(now);
        if (kind == POINTS) {
            now.rows[tier].remove(mark);
            return 1;
        }
        return now.removeWhole(tier, mark);
    }

    public int split(int tier, int mark, int time)
            throws NoSuchElementException, IllegalArgumentException, IllegalStateException {
        needMark(tier, mark);
        Row row = now.rows[tier];
        needState(row.kind != POINTS);
        needRange(time, row.froms[mark] + 1, row.tos[mark] - 1);
        needState(now.allowsCut(tier, time) && now.hasRoomForCut(tier, time));
        past.remember(now);
        return now.cutAt(tier, time);
    }

    public int join(int tier, int mark) throws NoSuchElementException, IllegalStateException {
        needMark(tier, mark);
        needState(now.allowsJoin(tier, mark));
        past.remember(now);
        Row row = now.rows[tier];
        row.joinNext(mark);
        return row.tos[mark];
    }

    public int move(int tier, int stop, int time)
            throws NoSuchElementException, IllegalArgumentException, IllegalStateException {
        needStop(tier, stop);
        needTime(time);
        int root = now.rows[tier].root;
        needState(now.allowsShift(root, stop, time));
        past.remember(now);
        return now.shiftStop(root, stop, time);
    }

    public int silence(int time, int length)
            throws IllegalArgumentException, IllegalStateException {
        needTime(time);
        needRange(length, 1, LAST_TIME);
        needState(now.allowsSilence(time, length));
        past.remember(now);
        int moved = now.countStopsBehind(time, stops);
        now.insertSilence(time, length);
        return moved;
    }

    public int label(int tier, int mark, int letters)
            throws NoSuchElementException, IllegalArgumentException {
        needMark(tier, mark);
        if (!isLabel(letters)) {
            refuseArgument();
        }
        past.remember(now);
        int was = now.rows[tier].labels[mark];
        now.rows[tier].labels[mark] = letters;
        return was;
    }

    public int adopt(int tier) throws NoSuchElementException {
        needTier(tier);
        Row row = now.rows[tier];
        Row twin = twinOf(row);
        if (twin == null) {
            return NONE;
        }
        int adopted = 0;
        for (int m = 0; m < row.count; m++) {
            int letters = row.labels[m] == 0 ? twin.labelOf(row.froms[m], row.tos[m]) : 0;
            if (letters != 0) {
                if (adopted == 0) {
                    past.remember(now);
                }
                row.labels[m] = letters;
                adopted++;
            }
        }
        return adopted;
    }

    public int snap(int tier, int apart) throws NoSuchElementException, IllegalArgumentException {
        needTier(tier);
        needRange(apart, 1, LAST_TIME);
        Row row = now.rows[tier];
        Row twin = twinOf(row);
        if (twin == null) {
            return NONE;
        }
        row.listTimes(here);
        twin.listTimes(there);
        int snapped = 0;
        for (int i = 0; i < here.count; i++) {
            int time = here.times[i];
            int goal = goalOfSnap(row.root, time, apart);
            if (goal != NONE) {
                if (snapped == 0) {
                    past.remember(now);
                }
                now.shiftStop(row.root, time, goal);
                snapped++;
            }
        }
        return snapped;
    }

    public int undo() {
        return past.recall(now) ? past.count : NONE;
    }

    public int keep() {
        theOther.copyFrom(now);
        kept = true;
        return theOther.countMarks();
    }

    // ---- the questions

    public int told(int what) throws IllegalArgumentException {
        needRange(what, 0, 5);
        switch (what) {
            case 0:
                return now.count;
            case 1:
                return now.countMarks();
            case 2:
                return now.countFamilies();
            case 3:
                return past.count;
            case 4:
                return reader.taped;
            default:
                return kept ? theOther.countMarks() : NONE;
        }
    }

    public int tier(int tier, int what) throws NoSuchElementException, IllegalArgumentException {
        needTier(tier);
        needRange(what, 0, 8);
        Row row = now.rows[tier];
        switch (what) {
            case 0:
                return row.kind;
            case 1:
                return row.parent;
            case 2:
                return row.count;
            case 3:
                return row.depth;
            case 4:
                return row.root;
            case 5:
                return row.wholeLength();
            case 6:
                return now.countChildren(tier);
            case 7:
                now.listStops(row.root, stops);
                return stops.count;
            default:
                return row.name;
        }
    }

    public int mark(int tier, int mark, int what)
            throws NoSuchElementException, IllegalArgumentException {
        needMark(tier, mark);
        needRange(what, 0, 6);
        Row row = now.rows[tier];
        switch (what) {
            case 0:
                return row.froms[mark];
            case 1:
                return row.tos[mark];
            case 2:
                return row.labels[mark];
            case 3:
                return now.parentMark(tier, mark);
            case 4:
                return now.countHeld(tier, mark);
            case 5:
                return now.countEnds(row.root, row.froms[mark]);
            default:
                return now.countEnds(row.root, row.tos[mark]);
        }
    }

    public int at(int tier, int time) throws NoSuchElementException, IllegalArgumentException {
        needTier(tier);
        needTime(time);
        return now.rows[tier].markAt(time);
    }

    public int over(int tier, int from, int to, int what)
            throws NoSuchElementException, IllegalArgumentException {
        needTier(tier);
        needSpan(from, to);
        needRange(what, 0, 2);
        Row row = now.rows[tier];
        int many = 0;
        int first = NONE;
        int length = 0;
        for (int m = 0; m < row.count; m++) {
            if (row.isOver(m, from, to)) {
                first = many == 0 ? m : first;
                many++;
                length += row.shared(m, from, to);
            }
        }
        return what == 0 ? many : what == 1 ? first : length;
    }

    public int within(int tier, int mark, int other, int what)
            throws NoSuchElementException, IllegalArgumentException {
        needMark(tier, mark);
        needTier(other);
        needRange(what, 0, 2);
        int from = now.rows[tier].froms[mark];
        int to = now.rows[tier].tos[mark];
        Row row = now.rows[other];
        int many = 0;
        int first = NONE;
        int length = 0;
        for (int m = 0; m < row.count; m++) {
            if (row.liesIn(m, from, to)) {
                first = many == 0 ? m : first;
                many++;
                length += row.length(m);
            }
        }
        return what == 0 ? many : what == 1 ? first : length;
    }

    public int find(int tier, int letters, int k) throws NoSuchElementException {
        needTier(tier);
        Row row = now.rows[tier];
        int seen = 0;
        for (int m = 0; m < row.count; m++) {
            if (row.labels[m] == letters) {
                if (seen == k) {
                    return m;
                }
                seen++;
            }
        }
        return NONE;
    }

    public int together(int tier, int letters, int other, int otherLetters)
            throws NoSuchElementException {
        needTier(tier);
        needTier(other);
        Row row = now.rows[tier];
        Row beside = now.rows[other];
        int length = 0;
        for (int m = 0; m < row.count; m++) {
            for (int o = 0; o < beside.count; o++) {
                if (row.labels[m] == letters && beside.labels[o] == otherLetters) {
                    length += row.shared(m, beside.froms[o], beside.tos[o]);
                }
            }
        }
        return length;
    }

    public int longest(int tier, int letters, int what)
            throws NoSuchElementException, IllegalArgumentException {
        needTier(tier);
        needRange(what, 0, 3);
        Row row = now.rows[tier];
        int best = NONE;
        int bestLength = 0;
        int many = 0;
        int length = 0;
        for (int m = 0; m < row.count; m++) {
            if (row.labels[m] == letters) {
                if (best == NONE || row.length(m) > bestLength) {
                    best = m;
                    bestLength = row.length(m);
                }
                many++;
                length += row.length(m);
            }
        }
        return what == 0 ? best : what == 1 ? bestLength : what == 2 ? many : length;
    }

    public int gaps(int tier, int what) throws NoSuchElementException, IllegalArgumentException {
        needTier(tier);
        needRange(what, 0, 3);
        int many = 0;
        int best = NONE;
        int bestLength = 0;
        int length = 0;
        for (int m = 0; m < now.rows[tier].count; m++) {
            int gap = now.gapBehind(tier, m);
            if (gap > 0) {
                many++;
                length += gap;
            }
            if (gap > bestLength) {
                best = m;
                bestLength = gap;
            }
        }
        return what == 0 ? many : what == 1 ? best : what == 2 ? bestLength : length;
    }

    public int stop(int tier, int k) throws NoSuchElementException {
        needTier(tier);
        now.listStops(now.rows[tier].root, stops);
        return k >= 0 && k < stops.count ? stops.times[k] : NONE;
    }

    public int room(int tier, int stop, int what)
            throws NoSuchElementException, IllegalArgumentException {
        needStop(tier, stop);
        needRange(what, 0, 1);
        int root = now.rows[tier].root;
        return what == 0 ? now.leastFor(root, stop) : now.greatestFor(root, stop);
    }

    public int agree(int tier, int what) throws NoSuchElementException, IllegalArgumentException {
        needTier(tier);
        needRange(what, 0, 3);
        Row row = now.rows[tier];
        Row twin = twinOf(row);
        if (twin == null) {
            return NONE;
        }
        int alike = row.sharedBeside(twin, true);
        int unlike = row.sharedBeside(twin, false);
        switch (what) {
            case 0:
                return alike;
            case 1:
                return unlike;
            case 2:
                return row.wholeLength() - alike - unlike;
            default:
                return twin.wholeLength() - alike - unlike;
        }
    }

    public int same(int tier, int apart, int what)
            throws NoSuchElementException, IllegalArgumentException {
        needTier(tier);
        needRange(apart, 0, LAST_TIME);
        needRange(what, 0, 1);
        Row row = now.rows[tier];
        Row twin = twinOf(row);
        if (twin == null) {
            return NONE;
        }
        row.listTimes(here);
        twin.listTimes(there);
        int best = weighPairs(apart);
        int pairs = (best + PAIR - 1) / PAIR;
        return what == 0 ? pairs : pairs * PAIR - best;
    }

    public long print() {
        long sum = 0;
        for (int t = 0; t < now.count; t++) {
            Row row = now.rows[t];
            for (int m = 0; m < row.count; m++) {
                sum = 31 * sum + row.froms[m];
                sum = 31 * sum + row.tos[m];
                sum = 31 * sum + row.labels[m];
            }
            sum = 31 * sum;
        }
        return sum;
    }

    public int status(int what) {
        switch (what) {
            case 0:
                return refusedMissing;
            case 1:
                return refusedArgument;
            case 2:
                return refusedState;
            default:
                return NONE;
        }
    }

    // ---- refusals

    private void refuseMissing() {
        refusedMissing++;
        throw new NoSuchElementException();
    }

    private void refuseArgument() {
        refusedArgument++;
        throw new IllegalArgumentException();
    }

    private void needState(boolean allowed) {
        if (!allowed) {
            refusedState++;
            throw new IllegalStateException();
        }
    }

    private void needTier(int tier) {
        if (!now.hasTier(tier)) {
            refuseMissing();
        }
    }

    private void needMark(int tier, int mark) {
        needTier(tier);
        if (!now.rows[tier].hasMark(mark)) {
            refuseMissing();
        }
    }

    private void needStop(int tier, int stop) {
        needTier(tier);
        if (now.countEnds(now.rows[tier].root, stop) == 0) {
            refuseMissing();
        }
    }

    private void needRange(int value, int least, int greatest) {
        if (value < least || value > greatest) {
            refuseArgument();
        }
    }

    private void needTime(int time) {
        needRange(time, 0, LAST_TIME);
    }

    private void needSpan(int from, int to) {
        needTime(from);
        needTime(to);
        if (to <= from) {
            refuseArgument();
        }
    }

    private static boolean isLabel(int letters) {
        if (letters < 0 || letters >= 1 << LABEL_LETTERS * LETTER_BITS) {
            return false;
        }
        int rest = letters;
        for (int n = 0; n < LABEL_LETTERS && rest != 0; n++) {
            int letter = rest & 31;
            if (letter == 0 || letter > LETTERS) {
                return false;
            }
            rest >>= LETTER_BITS;
        }
        return true;
    }

    // ---- beside the other

    private Row twinOf(Row row) {
        int index = kept ? theOther.indexOf(row.name) : NONE;
        return index == NONE ? null : theOther.rows[index];
    }

    /** The time in 'there' to which a time of 'here' goes; NONE: it stays where it is. */
    private int goalOfSnap(int root, int time, int apart) {
        if (there.count == 0 || there.has(time)) {
            return NONE;
        }
        int goal = there.nearest(time);
        if (Math.abs(goal - time) > apart || !now.allowsShift(root, time, goal)) {
            return NONE;
        }
        return goal;
    }

    /** The most pairs of 'here' and 'there' in order, PAIR for each, less all that they are apart. */
    private int weighPairs(int apart) {
        for (int j = 0; j <= there.count; j++) {
            bestPairs[j] = 0;
        }
        for (int i = 0; i < here.count; i++) {
            int diagonal = 0;
            for (int j = 0; j < there.count; j++) {
                int above = bestPairs[j + 1];
                int best = Math.max(above, bestPairs[j]);
                int distance = Math.abs(here.times[i] - there.times[j]);
                if (distance <= apart) {
                    best = Math.max(best, diagonal + PAIR - distance);
                }
                bestPairs[j + 1] = best;
                diagonal = above;
            }
        }
        return bestPairs[there.count];
    }

    /** Times in order, each of them once. */
    private static final class Times {
        final int[] times;
        int count;

        Times(int most) {
            times = new int[Math.max(0, most)];
        }

        void clear() {
            count = 0;
        }

        /** How many are less than a time. */
        int placeOf(int time) {
            int low = 0;
            int high = count;
            for (int n = 0; n < MOST_STOPS && low < high; n++) {
                int middle = (low + high) / 2;
                if (times[middle] < time) {
                    low = middle + 1;
                } else {
                    high = middle;
                }
            }
            return low;
        }

        boolean has(int time) {
            int place = placeOf(time);
            return place < count && times[place] == time;
        }

        void add(int time) {
            int place = placeOf(time);
            if (count >= times.length || place < count && times[place] == time) {
                return;
            }
            for (int i = count; i > place; i--) {
                times[i] = times[i - 1];
            }
            times[place] = time;
            count++;
        }

        /** The nearest one, of two alike near the earlier; NONE: there are none. */
        int nearest(int time) {
            if (count == 0) {
                return NONE;
            }
            int place = placeOf(time);
            if (place == 0) {
                return times[0];
            }
            int earlier = times[place - 1];
            if (place == count || time - earlier <= times[place] - time) {
                return earlier;
            }
            return times[place];
        }
    }

    /** One tier: what it is, and its marks in order of their times. */
    private static final class Row {
        int name;
        int kind;
        int parent;
        int root;
        int depth;
        int count;
        final int[] froms;
        final int[] tos;
        final int[] labels;

        Row() {
            froms = new int[MOST_MARKS];
            tos = new int[MOST_MARKS];
            labels = new int[MOST_MARKS];
        }

        void copyFrom(Row source) {
            name = source.name;
            kind = source.kind;
            parent = source.parent;
            root = source.root;
            depth = source.depth;
            count = source.count;
            System.arraycopy(source.froms, 0, froms, 0, MOST_MARKS);
            System.arraycopy(source.tos, 0, tos, 0, MOST_MARKS);
            System.arraycopy(source.labels, 0, labels, 0, MOST_MARKS);
        }

        boolean isFull() {
            return count >= MOST_MARKS;
        }

        boolean hasMark(int m) {
            return m >= 0 && m < count;
        }

        int length(int m) {
            return tos[m] - froms[m];
        }

        int wholeLength() {
            int whole = 0;
            for (int m = 0; m < count; m++) {
                whole += length(m);
            }
            return whole;
        }

        /** A mark more, in its place by time: its number; NONE: there is no room. */
        int insert(int from, int to, int letters) {
            if (count >= MOST_MARKS) {
                return NONE;
            }
            int place = count;
            while (place > 0 && froms[place - 1] > from) {
                froms[place] = froms[place - 1];
                tos[place] = tos[place - 1];
                labels[place] = labels[place - 1];
                place--;
            }
            froms[place] = from;
            tos[place] = to;
            labels[place] = letters;
            count++;
            return place;
        }

        void remove(int mark) {
            if (!hasMark(mark)) {
                return;
            }
            for (int m = mark; m + 1 < count; m++) {
                froms[m] = froms[m + 1];
                tos[m] = tos[m + 1];
                labels[m] = labels[m + 1];
            }
            count--;
        }

        int removeWithin(int from, int to) {
            int gone = 0;
            for (int m = count - 1; m >= 0; m--) {
                if (liesIn(m, from, to)) {
                    remove(m);
                    gone++;
                }
            }
            return gone;
        }

        void cutMark(int m, int time) {
            if (!hasMark(m) || isFull()) {
                return;
            }
            int to = tos[m];
            tos[m] = time;
            insert(time, to, labels[m]);
        }

        void joinNext(int m) {
            if (hasMark(m) && hasMark(m + 1)) {
                tos[m] = tos[m + 1];
                remove(m + 1);
            }
        }

        boolean liesIn(int m, int from, int to) {
            return froms[m] >= from && tos[m] <= to;
        }

        boolean isOver(int m, int from, int to) {
            if (kind == POINTS) {
                return froms[m] >= from && froms[m] < to;
            }
            return froms[m] < to && tos[m] > from;
        }

        boolean hasOver(int from, int to) {
            for (int m = 0; m < count; m++) {
                if (isOver(m, from, to)) {
                    return true;
                }
            }
            return false;
        }

        int shared(int m, int from, int to) {
            return Math.max(0, Math.min(tos[m], to) - Math.max(froms[m], from));
        }

        /** The time that marks of both rows have, of those with labels alike or of those without. */
        int sharedBeside(Row twin, boolean alike) {
            int length = 0;
            for (int m = 0; m < count; m++) {
                for (int o = 0; o < twin.count; o++) {
                    if ((labels[m] == twin.labels[o]) == alike) {
                        length += shared(m, twin.froms[o], twin.tos[o]);
                    }
                }
            }
            return length;
        }

        int markAt(int time) {
            for (int m = 0; m < count; m++) {
                if (froms[m] == time || froms[m] < time && time < tos[m]) {
                    return m;
                }
            }
            return NONE;
        }

        /** The mark that has a time strictly between its ends. */
        int markInside(int time) {
            for (int m = 0; m < count; m++) {
                if (froms[m] < time && time < tos[m]) {
                    return m;
                }
            }
            return NONE;
        }

        /** The first mark in which a span lies wholly. */
        int markAround(int from, int to) {
            for (int m = 0; m < count; m++) {
                if (froms[m] <= from && to <= tos[m]) {
                    return m;
                }
            }
            return NONE;
        }

        /** The label of the mark that has these ends; 0: none. */
        int labelOf(int from, int to) {
            for (int m = 0; m < count; m++) {
                if (froms[m] == from && tos[m] == to) {
                    return labels[m];
                }
            }
            return 0;
        }

        void addTimesTo(Times times) {
            for (int m = 0; m < count; m++) {
                times.add(froms[m]);
                times.add(tos[m]);
            }
        }

        void listTimes(Times times) {
            times.clear();
            addTimesTo(times);
        }

        /** How many ends are at a time; a point counts once. */
        int countEnds(int time) {
            int ends = 0;
            for (int m = 0; m < count; m++) {
                if (froms[m] == time) {
                    ends++;
                }
                if (kind != POINTS && tos[m] == time) {
                    ends++;
                }
            }
            return ends;
        }

        void shiftEnds(int stop, int time) {
            for (int m = 0; m < count; m++) {
                if (froms[m] == stop) {
                    froms[m] = time;
                }
                if (tos[m] == stop) {
                    tos[m] = time;
                }
            }
        }

        void insertSilence(int time, int length) {
            for (int m = 0; m < count; m++) {
                if (froms[m] > time) {
                    froms[m] += length;
                }
                if (tos[m] > time) {
                    tos[m] += length;
                }
            }
        }
    }

    /** All tiers with their marks, and the laws among them. A parent stands ahead of its children. */
    private static final class Sheet {
        int count;
        final Row[] rows;

        Sheet() {
            rows = new Row[MOST_TIERS];
            for (int t = 0; t < MOST_TIERS; t++) {
                rows[t] = new Row();
            }
        }

        void clear() {
            count = 0;
        }

        void copyFrom(Sheet source) {
            count = source.count;
            for (int t = 0; t < count; t++) {
                rows[t].copyFrom(source.rows[t]);
            }
        }

        boolean hasTier(int tier) {
            return tier >= 0 && tier < count;
        }

        int indexOf(int name) {
            for (int t = 0; t < count; t++) {
                if (rows[t].name == name) {
                    return t;
                }
            }
            return NONE;
        }

        int countMarks() {
            int marks = 0;
            for (int t = 0; t < count; t++) {
                marks += rows[t].count;
            }
            return marks;
        }

        int countFamilies() {
            return countChildren(NONE);
        }

        int countChildren(int tier) {
            int children = 0;
            for (int t = 0; t < count; t++) {
                if (rows[t].parent == tier) {
                    children++;
                }
            }
            return children;
        }

        /** A tier more, without marks, but that one of pieces has one for each mark of its parent. */
        void addTier(int name, int kind, int parent) {
            if (count >= MOST_TIERS) {
                return;
            }
            Row row = rows[count];
            row.name = name;
            row.kind = kind;
            row.parent = parent;
            row.root = hasTier(parent) ? rows[parent].root : count;
            row.depth = hasTier(parent) ? rows[parent].depth + 1 : 0;
            row.count = 0;
            if (kind == CUT && hasTier(parent)) {
                Row whole = rows[parent];
                for (int m = 0; m < whole.count; m++) {
                    row.insert(whole.froms[m], whole.tos[m], 0);
                }
            }
            count++;
        }

        boolean isBelow(int tier, int above) {
            int up = rows[tier].parent;
            for (int n = 0; n < MOST_TIERS && up > above; n++) {
                up = rows[up].parent;
            }
            return up == above;
        }

        /** Whether a tier is another one, or cuts it, or cuts what cuts it, and so on. */
        boolean isPieceOf(int tier, int whole) {
            int up = tier;
            for (int n = 0; n < MOST_TIERS && up > whole && rows[up].kind == CUT; n++) {
                up = rows[up].parent;
            }
            return up == whole;
        }

        /** The parent's mark in which a mark lies; NONE without a parent. */
        int parentMark(int tier, int mark) {
            Row row = rows[tier];
            if (!hasTier(row.parent) || !row.hasMark(mark)) {
                return NONE;
            }
            return rows[row.parent].markAround(row.froms[mark], row.tos[mark]);
        }

        boolean haveSameParent(int tier, int mark, int next) {
            return parentMark(tier, mark) == parentMark(tier, next);
        }

        int countHeld(int tier, int mark) {
            int held = 0;
            for (int t = tier + 1; t < count; t++) {
                for (int m = 0; rows[t].parent == tier && m < rows[t].count; m++) {
                    if (parentMark(t, m) == mark) {
                        held++;
                    }
                }
            }
            return held;
        }

        boolean liesInParent(Row row, int from, int to) {
            return hasTier(row.parent) && rows[row.parent].markAround(from, to) != NONE;
        }

        // -- marks that come

        boolean allowsMark(int tier, int from, int to) {
            Row row = rows[tier];
            if (row.kind != FREE && row.kind != IN || row.hasOver(from, to)) {
                return false;
            }
            return row.kind == FREE || liesInParent(row, from, to);
        }

        boolean hasRoomForMark(int tier) {
            for (int t = tier; t < count; t++) {
                if (isPieceOf(t, tier) && rows[t].isFull()) {
                    return false;
                }
            }
            return true;
        }

        int addMark(int tier, int from, int to) {
            for (int t = tier + 1; t < count; t++) {
                if (isPieceOf(t, tier)) {
                    rows[t].insert(from, to, 0);
                }
            }
            return rows[tier].insert(from, to, 0);
        }

        boolean allowsPoint(int tier, int time) {
            Row row = rows[tier];
            if (row.kind != POINTS || row.markAt(time) != NONE) {
                return false;
            }
            return row.parent == NONE || liesInParent(row, time, time);
        }

        // -- marks that go

        /** The mark that a piece falls to when it is taken away; NONE: it is the only one there. */
        int heirOf(int tier, int mark) {
            Row row = rows[tier];
            if (row.hasMark(mark - 1) && haveSameParent(tier, mark - 1, mark)) {
                return mark - 1;
            }
            if (row.hasMark(mark + 1) && haveSameParent(tier, mark, mark + 1)) {
                return mark + 1;
            }
            return NONE;
        }

        void removePiece(int tier, int mark, int heir) {
            Row row = rows[tier];
            if (heir < mark) {
                row.tos[heir] = row.tos[mark];
            } else {
                row.froms[heir] = row.froms[mark];
            }
            row.remove(mark);
        }

        /** A mark goes with all that hangs on it: how many. Parents lose theirs ahead of points. */
        int removeWhole(int tier, int mark) {
            int from = rows[tier].froms[mark];
            int to = rows[tier].tos[mark];
            int gone = rows[tier].removeWithin(from, to);
            for (int t = tier + 1; t < count; t++) {
                if (isBelow(t, tier)) {
                    gone += rows[t].kind == POINTS
                            ? removeLostPoints(rows[t])
                            : rows[t].removeWithin(from, to);
                }
            }
            return gone;
        }

        int removeLostPoints(Row row) {
            int gone = 0;
            for (int m = row.count - 1; m >= 0; m--) {
                if (!liesInParent(row, row.froms[m], row.tos[m])) {
                    row.remove(m);
                    gone++;
                }
            }
            return gone;
        }

        // -- marks cut in two, and joined

        boolean isCutWith(int tier, int whole, int time) {
            if (tier != whole && (rows[tier].kind != CUT || !isBelow(tier, whole))) {
                return false;
            }
            return rows[tier].markInside(time) != NONE;
        }

        boolean allowsCut(int tier, int time) {
            if (rows[tier].kind == POINTS || rows[tier].markInside(time) == NONE) {
                return false;
            }
            for (int t = tier + 1; t < count; t++) {
                if (rows[t].kind == IN && isBelow(t, tier) && rows[t].markInside(time) != NONE) {
                    return false;
                }
            }
            return true;
        }

        boolean hasRoomForCut(int tier, int time) {
            for (int t = tier; t < count; t++) {
                if (isCutWith(t, tier, time) && rows[t].isFull()) {
                    return false;
                }
            }
            return true;
        }

        int cutAt(int tier, int time) {
            int more = 0;
            for (int t = tier; t < count; t++) {
                if (isCutWith(t, tier, time)) {
                    rows[t].cutMark(rows[t].markInside(time), time);
                    more++;
                }
            }
            return more;
        }

        boolean allowsJoin(int tier, int mark) {
            Row row = rows[tier];
            if (row.kind == POINTS || !row.hasMark(mark) || !row.hasMark(mark + 1)) {
                return false;
            }
            return row.tos[mark] == row.froms[mark + 1] && haveSameParent(tier, mark, mark + 1);
        }

        /** How long the gap behind a mark is; 0: there is none. */
        int gapBehind(int tier, int mark) {
            Row row = rows[tier];
            if (row.kind == POINTS || !row.hasMark(mark) || !row.hasMark(mark + 1)) {
                return 0;
            }
            return haveSameParent(tier, mark, mark + 1) ? row.froms[mark + 1] - row.tos[mark] : 0;
        }

        // -- stops

        void listStops(int root, Times stops) {
            stops.clear();
            for (int t = 0; t < count; t++) {
                if (rows[t].root == root) {
                    rows[t].addTimesTo(stops);
                }
            }
        }

        int countEnds(int root, int time) {
            int ends = 0;
            for (int t = 0; t < count; t++) {
                if (rows[t].root == root) {
                    ends += rows[t].countEnds(time);
                }
            }
            return ends;
        }

        int leastFor(int root, int stop) {
            int least = 0;
            for (int t = 0; t < count; t++) {
                for (int m = 0; rows[t].root == root && m < rows[t].count; m++) {
                    if (rows[t].froms[m] < stop) {
                        least = Math.max(least, rows[t].froms[m] + 1);
                    }
                    if (rows[t].tos[m] < stop) {
                        least = Math.max(least, rows[t].tos[m] + 1);
                    }
                }
            }
            return least;
        }

        int greatestFor(int root, int stop) {
            int greatest = LAST_TIME;
            for (int t = 0; t < count; t++) {
                for (int m = 0; rows[t].root == root && m < rows[t].count; m++) {
                    if (rows[t].froms[m] > stop) {
                        greatest = Math.min(greatest, rows[t].froms[m] - 1);
                    }
                    if (rows[t].tos[m] > stop) {
                        greatest = Math.min(greatest, rows[t].tos[m] - 1);
                    }
                }
            }
            return greatest;
        }

        boolean allowsShift(int root, int stop, int time) {
            return time >= leastFor(root, stop) && time <= greatestFor(root, stop);
        }

        int shiftStop(int root, int stop, int time) {
            int ends = countEnds(root, stop);
            for (int t = 0; t < count; t++) {
                if (rows[t].root == root) {
                    rows[t].shiftEnds(stop, time);
                }
            }
            return ends;
        }

        /** The marks of a row stand in order, so its last one has its last end. */
        boolean allowsSilence(int time, int length) {
            for (int t = 0; t < count; t++) {
                int marks = rows[t].count;
                int last = marks == 0 ? 0 : rows[t].tos[marks - 1];
                if (last > time && last + length > LAST_TIME) {
                    return false;
                }
            }
            return true;
        }

        /** How many stops of all families are greater than a time. */
        int countStopsBehind(int time, Times stops) {
            int behind = 0;
            for (int t = 0; t < count; t++) {
                if (rows[t].parent == NONE) {
                    listStops(t, stops);
                    behind += stops.count - stops.placeOf(time + 1);
                }
            }
            return behind;
        }

        void insertSilence(int time, int length) {
            for (int t = 0; t < count; t++) {
                rows[t].insertSilence(time, length);
            }
        }
    }

    /** The latest sheets as they were ahead of an act, in a ring that drops the oldest. */
    private static final class History {
        final Sheet[] ring;
        int next;
        int count;

        History() {
            ring = new Sheet[MOST_ACTS];
            for (int i = 0; i < MOST_ACTS; i++) {
                ring[i] = new Sheet();
            }
        }

        void forget() {
            next = 0;
            count = 0;
        }

        void remember(Sheet sheet) {
            ring[next].copyFrom(sheet);
            next = next + 1 == MOST_ACTS ? 0 : next + 1;
            count = Math.min(count + 1, MOST_ACTS);
        }

        boolean recall(Sheet sheet) {
            if (count == 0) {
                return false;
            }
            next = next == 0 ? MOST_ACTS - 1 : next - 1;
            count--;
            sheet.copyFrom(ring[next]);
            return true;
        }
    }

    /**
     * The tape, and the reading of a text from it onto a sheet of its own, so that a fault leaves all
     * else as it was. One token (a word, a number, another sign, the end) is looked at at a time; a
     * method that answers false has told its fault.
     */
    private static final class Reader {
        private static final int WORD = 1;
        private static final int DIGITS = 2;
        private static final int SIGN = 3;
        private static final int END = 4;

        private static final int VERB_MARK = 1;
        private static final int VERB_POINT = 2;
        private static final int VERB_SPLIT = 3;
        private static final int VERB_LABEL = 4;

        private static final int UNFIT = 1;
        private static final int BAD_NUMBER = 2;
        private static final int TOO_MANY = 3;
        private static final int NAME_TOLD = 4;
        private static final int NAME_UNKNOWN = 5;
        private static final int UNLAWFUL = 6;

        final byte[] tape;
        int taped;
        final Sheet sheet;
        int fault;
        int faultPlace;
        int end;
        int place;
        // The token: what it is, where it begins, a word's letters and a number's worth.
        int token;
        int start;
        int size;
        int packed;
        int number;

        Reader() {
            tape = new byte[MOST_BYTES];
            sheet = new Sheet();
            faultPlace = NONE;
        }

        void appendNumber(int value) {
            for (int shift = 24; shift >= 0 && taped < MOST_BYTES; shift -= 8) {
                tape[taped] = (byte) (value >> shift);
                taped++;
            }
        }

        boolean readText(int n) {
            end = Math.max(0, Math.min(n, taped));
            taped = 0;
            place = 0;
            fault = 0;
            faultPlace = NONE;
            sheet.clear();
            advance();
            for (int line = 0; line < MOST_BYTES && token != END; line++) {
                boolean read = isWord("tier") ? readTierLine() : readMarkLine();
                if (!read) {
                    return false;
                }
                if (!isSemicolon()) {
                    return fail(UNFIT, start);
                }
                advance();
            }
            return true;
        }

        boolean fail(int reason, int where) {
            fault = reason;
            faultPlace = where;
            return false;
        }

        // -- tokens

        void advance() {
            while (place < end && tape[place] == ' ') {
                place++;
            }
            start = place;
            if (place >= end) {
                token = END;
            } else if (isLetter(tape[place])) {
                scanWord();
            } else if (isDigit(tape[place])) {
                scanNumber();
            } else {
                token = SIGN;
                place++;
            }
        }

        /** Letters beyond those of a name are counted alone: no such word can stand anywhere. */
        void scanWord() {
            token = WORD;
            packed = 0;
            while (place < end && isLetter(tape[place])) {
                if (place - start < NAME_LETTERS) {
                    packed = packed << LETTER_BITS | tape[place] - 'a' + 1;
                }
                place++;
            }
            size = place - start;
        }

        /** However many digits stand there, it is enough to know that a number is too great. */
        void scanNumber() {
            token = DIGITS;
            number = 0;
            while (place < end && isDigit(tape[place])) {
                number = Math.min(number * 10 + tape[place] - '0', LAST_TIME + 1);
                place++;
            }
        }

        static boolean isLetter(int sign) {
            return sign >= 'a' && sign <= 'z';
        }

        static boolean isDigit(int sign) {
            return sign >= '0' && sign <= '9';
        }

        boolean isSemicolon() {
            return token == SIGN && start < end && tape[start] == ';';
        }

        boolean isWord(String word) {
            if (token != WORD || word.length() != size) {
                return false;
            }
            for (int i = 0; i < size; i++) {
                if (tape[start + i] != word.charAt(i)) {
                    return false;
                }
            }
            return true;
        }

        boolean isShortWord(int most) {
            return token == WORD && size <= most;
        }

        /** The word as a name's number: of six letters, 0 behind the last. */
        int nameThere() {
            return packed << LETTER_BITS * Math.max(0, NAME_LETTERS - size);
        }

        /** The tier whose name stands there; NONE: a fault. */
        int tierThere() {
            if (!isShortWord(NAME_LETTERS)) {
                fail(UNFIT, start);
                return NONE;
            }
            int tier = sheet.indexOf(nameThere());
            if (tier == NONE) {
                fail(NAME_UNKNOWN, start);
            }
            return tier;
        }

        boolean isTimeThere() {
            if (token != DIGITS) {
                return fail(UNFIT, start);
            }
            return number <= LAST_TIME || fail(BAD_NUMBER, start);
        }

        int kindThere() {
            return isWord("free") ? FREE
                    : isWord("cut") ? CUT
                    : isWord("in") ? IN
                    : isWord("points") ? POINTS
                    : NONE;
        }

        int verbThere() {
            return isWord("mark") ? VERB_MARK
                    : isWord("point") ? VERB_POINT
                    : isWord("split") ? VERB_SPLIT
                    : isWord("label") ? VERB_LABEL
                    : NONE;
        }

        // -- lines

        boolean readTierLine() {
            if (sheet.count >= MOST_TIERS) {
                return fail(TOO_MANY, start);
            }
            advance();
            if (!isShortWord(NAME_LETTERS)) {
                return fail(UNFIT, start);
            }
            int name = nameThere();
            if (sheet.indexOf(name) != NONE) {
                return fail(NAME_TOLD, start);
            }
            advance();
            int kind = kindThere();
            if (kind == NONE) {
                return fail(UNFIT, start);
            }
            advance();
            if (kind == FREE || kind == POINTS && token != WORD) {
                sheet.addTier(name, kind, NONE);
                return true;
            }
            return readParent(name, kind);
        }

        boolean readParent(int name, int kind) {
            int parent = tierThere();
            if (parent == NONE) {
                return false;
            }
            if (sheet.rows[parent].kind == POINTS) {
                return fail(NAME_UNKNOWN, start);
            }
            sheet.addTier(name, kind, parent);
            advance();
            return true;
        }

        /** A line of a mark: laws are looked at behind its numbers, ahead of its label. */
        boolean readMarkLine() {
            int verb = verbThere();
            if (verb == NONE) {
                return fail(UNFIT, start);
            }
            advance();
            int tier = tierThere();
            int where = start;
            if (tier == NONE) {
                return false;
            }
            advance();
            if (!isTimeThere()) {
                return false;
            }
            int from = number;
            int to = number;
            advance();
            if (verb == VERB_MARK) {
                if (!isTimeThere()) {
                    return false;
                }
                to = number;
                if (to <= from) {
                    return fail(BAD_NUMBER, start);
                }
                advance();
            }
            int reason = faultOf(verb, tier, from, to);
            if (reason != 0) {
                return fail(reason, where);
            }
            return readLabel(verb, tier, carryOut(verb, tier, from, to));
        }

        int faultOf(int verb, int tier, int from, int to) {
            boolean lawful;
            boolean fits = true;
            if (verb == VERB_MARK) {
                lawful = sheet.allowsMark(tier, from, to);
                fits = sheet.hasRoomForMark(tier);
            } else if (verb == VERB_POINT) {
                lawful = sheet.allowsPoint(tier, from);
                fits = !sheet.rows[tier].isFull();
            } else if (verb == VERB_SPLIT) {
                lawful = sheet.allowsCut(tier, from);
                fits = sheet.hasRoomForCut(tier, from);
            } else {
                lawful = sheet.rows[tier].markAt(from) != NONE;
            }
            return !lawful ? UNLAWFUL : !fits ? TOO_MANY : 0;
        }

        /** Does what a line says: the mark that its label is for. */
        int carryOut(int verb, int tier, int from, int to) {
            if (verb == VERB_MARK) {
                return sheet.addMark(tier, from, to);
            }
            if (verb == VERB_POINT) {
                return sheet.rows[tier].insert(from, from, 0);
            }
            if (verb == VERB_SPLIT) {
                sheet.cutAt(tier, from);
            }
            return sheet.rows[tier].markAt(from);
        }

        boolean readLabel(int verb, int tier, int mark) {
            if (token != WORD && verb != VERB_LABEL) {
                return true;
            }
            if (!isShortWord(LABEL_LETTERS)) {
                return fail(UNFIT, start);
            }
            if (sheet.rows[tier].hasMark(mark)) {
                sheet.rows[tier].labels[mark] = packed;
            }
            advance();
            return true;
        }
    }
}
