import java.util.Arrays;

/**
 * Ink that may be taken back: places of a text, copies of them by hands, deeds that rest on places
 * and on one another; what stands, what falls, and what is foretold of both.
 *
 * <p>All rows are made with the object and used again: no call makes an object of its own.
 */
public final class InkTaken {
    public static final int NONE = -1000000, BAD = -1000001, STATE = -1000002, FULL = -1000003;

    private static final int FINDING_BASE = -1000010, FAULT_BASE = -1000100;
    private static final int FOUND_NULL = 1, FOUND_PLACE = 2, FOUND_KIND = 3, FOUND_SIZE = 4, FOUND_STORE = 5;

    private static final int ROWS = 8, ROW_ROOM = 40, LANES = 3, MISSING = -1;
    private static final int TAPE_ROOM = 140, LAST_BYTE = 255;
    private static final int HAND_ROOM = 4, COPY_ROOM = 10, DEED_ROOM = 5, PLACES = 6, ACT_ROOM = 24;
    private static final int LAST_DAY = 999, MOST_DAYS = 24, MOST_AHEAD = 200, MOST_DRAWS = 100, LAST_SEED = 999999;
    private static final int WIDEST_COPY = 9, WIDEST_BLANK = 90, LONGEST_YEAR = 99, IMAGES = 2;

    private static final int KINDS = 6, SCRIBE = 1, POET = 2, DRUNK = 3, HEIR = 4, SEAL = 5;
    private static final int ACT_WRITE = 0, ACT_RECALL = 1, ACT_DAY = 2;

    private final Rows rows = new Rows();
    private final Archive now = new Archive();
    private final Archive firstImage = new Archive();
    private final Archive secondImage = new Archive();
    private final Reader reader = new Reader();
    private final Acts acts = new Acts();
    private final Foretold foretold = new Foretold();
    private final Asks asks = new Asks();
    private int latestFault;
    private int latestFinding;

    public InkTaken() {
    }

    // ---- rows

    public int row(int row, int lane, int n) {
        if (!isRow(row) || !isBelow(lane, LANES) || n > ROW_ROOM) return BAD;
        if (n < 0) return found(FOUND_SIZE);
        rows.lay(row, lane, n);
        return unfound(n);
    }

    public int set(int row, int i, int v) {
        if (!isRow(row)) return BAD;
        if (rows.isMissing(row)) return found(FOUND_NULL);
        if (!rows.hasPlaces(row, i, 1)) return found(FOUND_PLACE);
        return unfound(rows.put(row, i, v));
    }

    public int copy(int a, int i, int b, int j, int n) {
        if (!isRow(a) || !isRow(b)) return BAD;
        if (rows.isMissing(a) || rows.isMissing(b)) return found(FOUND_NULL);
        if (rows.lanes[a] != rows.lanes[b]) return found(FOUND_STORE);
        if (!rows.hasPlaces(a, i, n) || !rows.hasPlaces(b, j, n)) return found(FOUND_PLACE);
        System.arraycopy(rows.items[a], i, rows.items[b], j, n);
        return unfound(n);
    }

    public int drop(int row) {
        if (!isRow(row)) return BAD;
        if (rows.isMissing(row)) return found(FOUND_NULL);
        rows.lanes[row] = MISSING;
        return unfound(rows.sizes[row]);
    }

    // ---- what is told

    public int feed(int letter) {
        if (letter < 0 || letter > LAST_BYTE) return BAD;
        if (reader.size >= TAPE_ROOM) return FULL;
        return reader.append(letter);
    }

    public int archive() {
        boolean read = reader.readTape();
        reader.size = 0;
        if (!read) {
            latestFault = reader.faultNumber;
            return FAULT_BASE - reader.at;
        }
        now.become(reader.draft);
        acts.forget();
        return now.hands;
    }

    public int fault() {
        return latestFault;
    }

    public int undo() {
        if (acts.size <= 0) return STATE;
        acts.undoLatest(now);
        return acts.size;
    }

    // ---- what is done

    public int write(int place, int hand, int width) {
        if (!isBelow(place, PLACES) || !isHand(hand) || width < 1 || width > WIDEST_COPY) return BAD;
        if (now.copies >= COPY_ROOM) return FULL;
        acts.keep(ACT_WRITE, now.white);
        now.addCopy(place, hand, width);
        now.spent += now.coins[hand];
        return now.copies - 1;
    }

    public int recall(int copy) {
        if (!isCopy(copy)) return BAD;
        if (!now.mayRecallNow(copy)) return STATE;
        acts.keep(ACT_RECALL, now.white);
        now.white |= 1 << copy;
        return bitOf(now.blackBy(now.white), now.placeOf[copy]);
    }

    public int days(int n) {
        if (!now.told) return STATE;
        if (n < 1 || n > MOST_DAYS) return BAD;
        if (now.day + n > LAST_DAY) return FULL;
        for (int i = 0; i < n; i++) {
            acts.keep(ACT_DAY, now.white);
            now.passDay();
        }
        return now.standingBy(now.white);
    }

    public int copyOf(int copy, int what) {
        if (!isCopy(copy)) return BAD;
        switch (what) {
            case 0: return now.placeOf[copy];
            case 1: return now.handOf[copy];
            case 2: return now.widthOf[copy];
            case 3: return now.dayOf[copy];
            case 4: return bitOf(now.white, copy);
            case 5: return now.mayRecallNow(copy) ? 1 : 0;
            default: return BAD;
        }
    }

    public int hand(int hand, int what) {
        if (!isHand(hand)) return BAD;
        switch (what) {
            case 0: return now.coins[hand];
            case 1: return now.limitOf(hand, now.year);
            case 2: return now.copiesBy(hand);
            default: return BAD;
        }
    }

    public int deed(int deed, int what) {
        if (!isDeed(deed)) return BAD;
        switch (what) {
            case 0: return now.setOf[deed];
            case 1: return now.needsAll[deed];
            case 2: return now.onOf[deed] >= 0 ? now.onOf[deed] : NONE;
            case 3: return now.worthOf[deed];
            case 4: return bitOf(now.standingBy(now.white), deed);
            default: return BAD;
        }
    }

    public int place(int place, int what) {
        if (!now.told) return STATE;
        if (!isBelow(place, PLACES) || !isBelow(what, 2)) return BAD;
        return what == 0 ? now.copiesAt(place) : bitOf(now.blackBy(now.white), place);
    }

    // ---- foretold (a set of HANDS: bits)

    public int falls(int hands, int what) {
        if (!now.told) return STATE;
        if (!isHandSet(hands) || !isBelow(what, 2)) return BAD;
        return what == 0 ? foretold.fallenBy(now, hands) : foretold.lossBy(now, hands);
    }

    public int ransom(int hand) {
        return isHand(hand) ? foretold.lossBy(now, 1 << hand) : BAD;
    }

    public int pair(int what) {
        if (!now.told) return STATE;
        if (!isBelow(what, 2)) return BAD;
        foretold.weighAll(now);
        int two = foretold.bestPair(now);
        return what == 0 || two == NONE ? two : foretold.gainOf(two / HAND_ROOM, two % HAND_ROOM);
    }

    public int ahead(int n, int what) {
        if (!now.told) return STATE;
        if (n < 0 || n > MOST_AHEAD || !isBelow(what, 3)) return BAD;
        int white = now.whiteOn(now.white, now.day + n);
        switch (what) {
            case 0: return now.blackBy(white);
            case 1: return now.standingBy(white);
            default: return white;
        }
    }

    public int first(int deed, int n) {
        if (!isDeed(deed) || n < 1 || n > MOST_AHEAD) return BAD;
        return foretold.firstFall(now, deed, n);
    }

    public int safe(int copy) {
        return isCopy(copy) ? foretold.safeFrom(now, copy) : BAD;
    }

    public int doubles(int deed, int hands, int what) {
        if (!isDeed(deed) || !isHandSet(hands) || !isBelow(what, 3)) return BAD;
        return foretold.doublesFor(now, deed, hands, what);
    }

    public int law(int deed, int hands) {
        if (!isDeed(deed) || !isHandSet(hands)) return BAD;
        return foretold.leastYear(now, deed, hands);
    }

    public int order(int k) {
        if (!now.told) return STATE;
        if (k < -1 || k >= HAND_ROOM) return BAD;
        if (k >= now.hands) return NONE;
        foretold.weighAll(now);
        int best = foretold.bestOrder(now);
        return k < 0 ? foretold.sumOfOrder(now, best) : foretold.handInOrder(now, best, k);
    }

    public int blanks(int width, int what) {
        if (!now.told) return STATE;
        if (width < 1 || width > WIDEST_BLANK || !isBelow(what, 2)) return BAD;
        return foretold.blanksOf(now, width, what);
    }

    public int forged(int row, int i) {
        if (!now.told) return STATE;
        if (!isRow(row)) return BAD;
        if (rows.isMissing(row)) return found(FOUND_NULL);
        if (!rows.hasPlaces(row, i, now.copies)) return found(FOUND_PLACE);
        return unfound(foretold.forgedBy(now, rows.items[row], i));
    }

    public int itself(int deed, int place, int what) {
        if (!isDeed(deed) || !isBelow(place, PLACES) || !isBelow(what, 2)) return BAD;
        return foretold.selfOf(now, deed, place, what);
    }

    public int years(int n, int seed, int what) {
        if (!now.told) return STATE;
        if (n < 0 || n > MOST_DRAWS || seed < 1 || seed > LAST_SEED || !isBelow(what, 2)) return BAD;
        return foretold.byDraws(now, n, seed, what);
    }

    public int image(int k) {
        if (!isBelow(k, IMAGES)) return BAD;
        if (!now.told) return STATE;
        imageOf(k).become(now);
        return 1;
    }

    public int restore(int k) {
        if (!isBelow(k, IMAGES)) return BAD;
        if (!imageOf(k).told) return STATE;
        now.become(imageOf(k));
        acts.forget();
        return 1;
    }

    // ---- asked

    public int kind(int one) {
        return isHand(one) ? now.kinds[one] : BAD;
    }

    public int as(int one, int kind) {
        if (!isHand(one) || !isBelow(kind, KINDS)) return BAD;
        if (!Asks.isKindOf(now.kinds[one], kind)) return found(FOUND_KIND);
        return unfound(one);
    }

    public int ask(int one, int what) {
        if (!isHand(one) || !isBelow(what, 2)) return BAD;
        return asks.answerOf(now, one, what);
    }

    public int trace(int i) {
        return isBelow(i, asks.left) ? asks.trace[i] : NONE;
    }

    public int count(int what) {
        switch (what) {
            case 0: return rows.present();
            case 1: return now.hands;
            case 2: return now.copies;
            case 3: return now.deeds;
            case 4: return now.day;
            case 5: return now.spent;
            case 6: return Integer.bitCount(now.white);
            case 7: return acts.size;
            case 8: return reader.size;
            default: return BAD;
        }
    }

    public int status() {
        return latestFinding;
    }

    private int found(int number) {
        latestFinding = number;
        return FINDING_BASE - number;
    }

    private int unfound(int answer) {
        latestFinding = 0;
        return answer;
    }

    private Archive imageOf(int k) {
        return k == 0 ? firstImage : secondImage;
    }

    private boolean isHand(int hand) {
        return isBelow(hand, now.hands);
    }

    private boolean isCopy(int copy) {
        return isBelow(copy, now.copies);
    }

    private boolean isDeed(int deed) {
        return isBelow(deed, now.deeds);
    }

    /** A bit that no HAND has makes a number no set of HANDS. */
    private boolean isHandSet(int hands) {
        return isBelow(hands, 1 << now.hands);
    }

    private static boolean isRow(int row) {
        return isBelow(row, ROWS);
    }

    private static boolean isBelow(int number, int bound) {
        return number >= 0 && number < bound;
    }

    private static int bitOf(int bits, int i) {
        return bits >> i & 1;
    }

    /** The eight ROWS, each with room for the longest, so that none is ever made anew. */
    private static final class Rows {
        final int[] lanes = new int[ROWS];
        final int[] sizes = new int[ROWS];
        final int[][] items = new int[ROWS][ROW_ROOM];

        Rows() {
            for (int row = 0; row < ROWS; row++) lanes[row] = MISSING;
        }

        void lay(int row, int lane, int n) {
            lanes[row] = lane;
            sizes[row] = n;
            Arrays.fill(items[row], 0);
        }

        boolean isMissing(int row) {
            return lanes[row] == MISSING;
        }

        /** Compared by a difference: a sum of i and n could wrap around. */
        boolean hasPlaces(int row, int i, int n) {
            return i >= 0 && n >= 0 && i <= sizes[row] - n;
        }

        int put(int row, int i, int v) {
            switch (lanes[row]) {
                case 0: items[row][i] = (byte) v; break;
                case 1: items[row][i] = (short) v; break;
                default: items[row][i] = v; break;
            }
            return items[row][i];
        }

        int present() {
            int many = 0;
            for (int row = 0; row < ROWS; row++) {
                if (!isMissing(row)) many++;
            }
            return many;
        }
    }

    /** An ARCHIVE as it is on its DAY; what could be is asked of it by a set of white COPIES and a DAY. */
    private static final class Archive {
        boolean told;
        int year;
        int repent;
        int day;
        int spent;
        int white;
        int hands;
        int copies;
        int deeds;
        final int[] kinds = new int[HAND_ROOM];
        final int[] coins = new int[HAND_ROOM];
        final int[] placeOf = new int[COPY_ROOM];
        final int[] handOf = new int[COPY_ROOM];
        final int[] widthOf = new int[COPY_ROOM];
        final int[] dayOf = new int[COPY_ROOM];
        final int[] setOf = new int[DEED_ROOM];
        final int[] needsAll = new int[DEED_ROOM];
        final int[] onOf = new int[DEED_ROOM];
        final int[] worthOf = new int[DEED_ROOM];

        void begin() {
            told = true;
            day = 0;
            spent = 0;
            white = 0;
            hands = 0;
            copies = 0;
            deeds = 0;
        }

        void become(Archive other) {
            told = other.told;
            year = other.year;
            repent = other.repent;
            day = other.day;
            spent = other.spent;
            white = other.white;
            hands = other.hands;
            copies = other.copies;
            deeds = other.deeds;
            System.arraycopy(other.kinds, 0, kinds, 0, HAND_ROOM);
            System.arraycopy(other.coins, 0, coins, 0, HAND_ROOM);
            System.arraycopy(other.placeOf, 0, placeOf, 0, COPY_ROOM);
            System.arraycopy(other.handOf, 0, handOf, 0, COPY_ROOM);
            System.arraycopy(other.widthOf, 0, widthOf, 0, COPY_ROOM);
            System.arraycopy(other.dayOf, 0, dayOf, 0, COPY_ROOM);
            System.arraycopy(other.setOf, 0, setOf, 0, DEED_ROOM);
            System.arraycopy(other.needsAll, 0, needsAll, 0, DEED_ROOM);
            System.arraycopy(other.onOf, 0, onOf, 0, DEED_ROOM);
            System.arraycopy(other.worthOf, 0, worthOf, 0, DEED_ROOM);
        }

        void addHand(int kind, int coin) {
            if (hands >= HAND_ROOM) return;
            kinds[hands] = kind;
            coins[hands] = coin;
            hands++;
        }

        void addCopy(int place, int hand, int width) {
            if (copies >= COPY_ROOM) return;
            placeOf[copies] = place;
            handOf[copies] = hand;
            widthOf[copies] = width;
            dayOf[copies] = day;
            copies++;
        }

        void addDeed(int all, int set, int on, int worth) {
            if (deeds >= DEED_ROOM) return;
            needsAll[deeds] = all;
            setOf[deeds] = set;
            onOf[deeds] = on;
            worthOf[deeds] = worth;
            deeds++;
        }

        int limitOf(int hand, int byYear) {
            switch (kinds[hand]) {
                case POET: return byYear / 2;
                case HEIR: return byYear * 2;
                case SEAL: return -1;
                default: return byYear;
            }
        }

        boolean isDrunk(int hand) {
            return kinds[hand] == DRUNK;
        }

        boolean isInLimit(int copy, int onDay) {
            return onDay - dayOf[copy] <= limitOf(handOf[copy], year);
        }

        boolean mayRecall(int copy, int whiteThen, int onDay) {
            return bitOf(whiteThen, copy) == 0 && isInLimit(copy, onDay);
        }

        boolean mayRecallNow(int copy) {
            return mayRecall(copy, white, day);
        }

        /** The COPIES that a set of HANDS may recall now, were the YEAR as told. */
        int recallableBy(int handSet, int byYear) {
            int bits = 0;
            for (int copy = 0; copy < copies; copy++) {
                int hand = handOf[copy];
                boolean theirs = bitOf(handSet, hand) == 1 && bitOf(white, copy) == 0;
                if (theirs && day - dayOf[copy] <= limitOf(hand, byYear)) bits |= 1 << copy;
            }
            return bits;
        }

        int whiteAfter(int handSet, int byYear) {
            return white | recallableBy(handSet, byYear);
        }

        int copiesBy(int hand) {
            int bits = 0;
            for (int copy = 0; copy < copies; copy++) {
                if (handOf[copy] == hand) bits |= 1 << copy;
            }
            return bits;
        }

        int unwhiteBy(int hand) {
            return Integer.bitCount(copiesBy(hand) & ~white);
        }

        int copiesAt(int place) {
            int bits = 0;
            for (int copy = 0; copy < copies; copy++) {
                if (placeOf[copy] == place) bits |= 1 << copy;
            }
            return bits;
        }

        int blackBy(int whiteThen) {
            int bits = 0;
            for (int copy = 0; copy < copies; copy++) {
                if (bitOf(whiteThen, copy) == 0) bits |= 1 << placeOf[copy];
            }
            return bits;
        }

        /** One pass is enough: a DEED is ON none but one told ahead of it. */
        int standingOn(int black) {
            int bits = 0;
            for (int deed = 0; deed < deeds; deed++) {
                boolean own = needsAll[deed] == 1 ? (setOf[deed] & ~black) == 0 : (setOf[deed] & black) != 0;
                boolean held = onOf[deed] < 0 || bitOf(bits, onOf[deed]) == 1;
                if (own && held) bits |= 1 << deed;
            }
            return bits;
        }

        int standingBy(int whiteThen) {
            return standingOn(blackBy(whiteThen));
        }

        /** COPIES that are white on a DAY, if none was recalled since they were as told. */
        int whiteOn(int whiteThen, int onDay) {
            int bits = whiteThen;
            for (int copy = 0; copy < copies; copy++) {
                if (isDrunk(handOf[copy]) && onDay - dayOf[copy] >= repent) bits |= 1 << copy;
            }
            return bits;
        }

        void passDay() {
            day++;
            white = whiteOn(white, day);
        }
    }

    /** THE TAPE, and how it is read into a draft, so that a FAULT leaves the ARCHIVE as it is. */
    private static final class Reader {
        final int[] tape = new int[TAPE_ROOM];
        final Archive draft = new Archive();
        int size;
        int at;
        int faultNumber;

        int append(int letter) {
            if (size < TAPE_ROOM) {
                tape[size] = letter;
                size++;
            }
            return size;
        }

        boolean readTape() {
            at = 0;
            faultNumber = 0;
            draft.begin();
            if (!readLaw() || !readHands() || !readCopies() || !readDeeds()) return false;
            return at == size || fail(1);
        }

        private boolean fail(int number) {
            faultNumber = number;
            return false;
        }

        /** The byte that is next; at the end one that can stand nowhere. */
        private int next() {
            return at < size ? tape[at] : -1;
        }

        private boolean isFigure(int place) {
            return place < size && tape[place] >= '0' && tape[place] <= '9';
        }

        private boolean readSign(int sign) {
            if (next() != sign) return fail(1);
            at++;
            return true;
        }

        /** A NUMBER from least to most: it, or -1 at a FAULT. */
        private int readNumber(int least, int most) {
            int end = at;
            while (end < size && isFigure(end)) end++;
            if (end == at || end - at > 2) {
                faultNumber = 1;
                return -1;
            }
            int number = tape[at] - '0';
            if (end - at == 2) number = number * 10 + tape[at + 1] - '0';
            if (number < least || number > most) {
                faultNumber = 2;
                return -1;
            }
            at = end;
            return number;
        }

        private int readNumberAndSign(int least, int most, int sign) {
            int number = readNumber(least, most);
            return number >= 0 && readSign(sign) ? number : -1;
        }

        private boolean readLaw() {
            if (!readSign('i')) return false;
            draft.year = readNumberAndSign(1, LONGEST_YEAR, ',');
            if (draft.year < 0) return false;
            draft.repent = readNumberAndSign(1, 99, ';');
            return draft.repent >= 0;
        }

        private static int kindOfSort(int letter) {
            switch (letter) {
                case 's': return SCRIBE;
                case 'p': return POET;
                case 'r': return DRUNK;
                case 'h': return HEIR;
                case 'l': return SEAL;
                default: return 0;
            }
        }

        /** One round more than there is room for: the last can only fail. */
        private boolean readHands() {
            for (int round = 0; round <= HAND_ROOM && kindOfSort(next()) != 0; round++) {
                if (!readHand()) return false;
            }
            return draft.hands > 0 || fail(1);
        }

        private boolean readHand() {
            if (draft.hands >= HAND_ROOM) return fail(3);
            int kind = kindOfSort(next());
            at++;
            int coin = readNumberAndSign(0, 9, ';');
            if (coin < 0) return false;
            draft.addHand(kind, coin);
            return true;
        }

        private boolean readCopies() {
            for (int round = 0; round <= COPY_ROOM && next() == 'w'; round++) {
                if (!readCopy()) return false;
            }
            return true;
        }

        private boolean readCopy() {
            if (draft.copies >= COPY_ROOM) return fail(3);
            at++;
            int place = readNumberAndSign(0, PLACES - 1, ',');
            if (place < 0) return false;
            int hand = readNumberAndSign(0, draft.hands - 1, ',');
            if (hand < 0) return false;
            int width = readNumberAndSign(1, WIDEST_COPY, ';');
            if (width < 0) return false;
            draft.addCopy(place, hand, width);
            return true;
        }

        private boolean readDeeds() {
            for (int round = 0; round <= DEED_ROOM && (next() == 'a' || next() == 'y'); round++) {
                if (!readDeed()) return false;
            }
            return true;
        }

        private boolean readDeed() {
            if (draft.deeds >= DEED_ROOM) return fail(3);
            int all = next() == 'a' ? 1 : 0;
            at++;
            int set = readNumberAndSign(1, (1 << PLACES) - 1, ',');
            if (set < 0) return false;
            int on = readNumberAndSign(0, draft.deeds, ',');
            if (on < 0) return false;
            int worth = readNumberAndSign(0, 20, ';');
            if (worth < 0) return false;
            draft.addDeed(all, set, on - 1, worth);
            return true;
        }
    }

    /** The latest ACTS, the oldest first, each with the COPIES that were white ahead of it. */
    private static final class Acts {
        final int[] sorts = new int[ACT_ROOM];
        final int[] whites = new int[ACT_ROOM];
        int size;

        void forget() {
            size = 0;
        }

        void keep(int sort, int white) {
            if (size >= ACT_ROOM) {
                System.arraycopy(sorts, 1, sorts, 0, ACT_ROOM - 1);
                System.arraycopy(whites, 1, whites, 0, ACT_ROOM - 1);
                size = ACT_ROOM - 1;
            }
            sorts[size] = sort;
            whites[size] = white;
            size++;
        }

        void undoLatest(Archive archive) {
            if (size <= 0) return;
            size--;
            archive.white = whites[size];
            if (sorts[size] == ACT_DAY) archive.day--;
            if (sorts[size] == ACT_WRITE && archive.copies > 0) {
                archive.copies--;
                archive.spent -= archive.coins[archive.handOf[archive.copies]];
            }
        }
    }

    /** What would be; nothing of the ARCHIVE changes by it. */
    private static final class Foretold {
        final int[] losses = new int[1 << HAND_ROOM];
        final int[] ways = new int[WIDEST_BLANK + 1];
        final int[] leastSets = new int[WIDEST_BLANK + 1];

        int fallenBy(Archive archive, int handSet) {
            int then = archive.standingBy(archive.whiteAfter(handSet, archive.year));
            return archive.standingBy(archive.white) & ~then;
        }

        int lossBy(Archive archive, int handSet) {
            int fallen = fallenBy(archive, handSet);
            int loss = 0;
            for (int deed = 0; deed < archive.deeds; deed++) {
                if (bitOf(fallen, deed) == 1) loss += archive.worthOf[deed];
            }
            return loss;
        }

        /** LOSSES by all sets of HANDS: ahead of PAIR and ORDER, which compare many of them. */
        void weighAll(Archive archive) {
            for (int set = 0; set < 1 << archive.hands; set++) losses[set] = lossBy(archive, set);
        }

        int gainOf(int one, int other) {
            return losses[1 << one | 1 << other] - losses[1 << one] - losses[1 << other];
        }

        int bestPair(Archive archive) {
            int best = NONE;
            int most = 0;
            for (int one = 0; one < archive.hands; one++) {
                for (int other = one + 1; other < archive.hands; other++) {
                    int gain = gainOf(one, other);
                    if (best == NONE || gain > most) {
                        best = HAND_ROOM * one + other;
                        most = gain;
                    }
                }
            }
            return best;
        }

        int firstFall(Archive archive, int deed, int n) {
            for (int i = 0; i < n; i++) {
                int white = archive.whiteOn(archive.white, archive.day + i + 1);
                if (bitOf(archive.standingBy(white), deed) == 0) return i;
            }
            return NONE;
        }

        int safeFrom(Archive archive, int copy) {
            int hand = archive.handOf[copy];
            if (bitOf(archive.white, copy) == 1 || archive.isDrunk(hand)) return NONE;
            return Math.max(archive.day, archive.dayOf[copy] + archive.limitOf(hand, archive.year) + 1);
        }

        int doublesFor(Archive archive, int deed, int handSet, int what) {
            int places = fewestPlaces(archive, deed, archive.blackBy(archive.whiteAfter(handSet, archive.year)));
            if (places == 0) return 0;
            int coin = cheapestBeside(archive, handSet);
            if (coin == NONE) return NONE;
            switch (what) {
                case 0: return Integer.bitCount(places);
                case 1: return Integer.bitCount(places) * coin;
                default: return places;
            }
        }

        /** All PLACES black, every DEED stands: so there is always such a set. */
        private int fewestPlaces(Archive archive, int deed, int black) {
            int best = (1 << PLACES) - 1;
            for (int places = 0; places < 1 << PLACES; places++) {
                boolean fewer = Integer.bitCount(places) < Integer.bitCount(best);
                if (fewer && bitOf(archive.standingOn(black | places), deed) == 1) best = places;
            }
            return best;
        }

        private int cheapestBeside(Archive archive, int handSet) {
            int least = NONE;
            for (int hand = 0; hand < archive.hands; hand++) {
                boolean may = bitOf(handSet, hand) == 0 && !archive.isDrunk(hand);
                if (may && (least == NONE || archive.coins[hand] < least)) least = archive.coins[hand];
            }
            return least;
        }

        int leastYear(Archive archive, int deed, int handSet) {
            for (int year = 1; year <= LONGEST_YEAR; year++) {
                if (bitOf(archive.standingBy(archive.whiteAfter(handSet, year)), deed) == 0) return year;
            }
            return NONE;
        }

        /** An order is a number of as many figures as HANDS, to the base HAND_ROOM: the first is the least. */
        int bestOrder(Archive archive) {
            int best = 0;
            int most = -1;
            for (int order = 0; order < 1 << 2 * archive.hands; order++) {
                int sum = sumOfOrder(archive, order);
                if (sum > most) {
                    best = order;
                    most = sum;
                }
            }
            return best;
        }

        int handInOrder(Archive archive, int order, int k) {
            return order >> 2 * (archive.hands - 1 - k) & HAND_ROOM - 1;
        }

        /** The LOSSES behind each, added; -1: it is no order, as not every HAND comes once. */
        int sumOfOrder(Archive archive, int order) {
            int set = 0;
            int sum = 0;
            for (int k = 0; k < archive.hands; k++) {
                int hand = handInOrder(archive, order, k);
                if (hand >= archive.hands || bitOf(set, hand) == 1) return -1;
                set |= 1 << hand;
                sum += losses[set];
            }
            return sum;
        }

        /** COPIES come in by their numbers, so the first set found for a width is the least. */
        int blanksOf(Archive archive, int width, int what) {
            Arrays.fill(ways, 0);
            Arrays.fill(leastSets, 0);
            ways[0] = 1;
            int free = archive.recallableBy((1 << HAND_ROOM) - 1, archive.year);
            for (int copy = 0; copy < archive.copies; copy++) {
                if (bitOf(free, copy) == 1) widenBy(archive, copy, width);
            }
            if (what == 0) return ways[width];
            return ways[width] > 0 ? leastSets[width] : NONE;
        }

        /** From the widest down, so that the COPY is in no set twice. */
        private void widenBy(Archive archive, int copy, int width) {
            int own = archive.widthOf[copy];
            for (int wide = width; wide >= own; wide--) {
                if (ways[wide] == 0 && ways[wide - own] > 0) leastSets[wide] = leastSets[wide - own] | 1 << copy;
                ways[wide] += ways[wide - own];
            }
        }

        int forgedBy(Archive archive, int[] items, int from) {
            int bits = 0;
            for (int copy = 0; copy < archive.copies && from + copy < items.length; copy++) {
                int said = items[from + copy];
                if (said != -1 && !couldWhiten(archive, copy, said)) bits |= 1 << copy;
            }
            return bits;
        }

        private boolean couldWhiten(Archive archive, int copy, int onDay) {
            if (onDay < archive.dayOf[copy] || onDay > archive.day) return false;
            boolean inLimit = archive.isInLimit(copy, onDay);
            if (!archive.isDrunk(archive.handOf[copy])) return inLimit;
            int age = onDay - archive.dayOf[copy];
            return age == archive.repent || age < archive.repent && inLimit;
        }

        int selfOf(Archive archive, int deed, int place, int what) {
            int black = archive.blackBy(archive.white);
            boolean canStand = bitOf(archive.standingOn(black & ~(1 << place)), deed) == 1;
            boolean canFail = bitOf(archive.standingOn(black), deed) == 0;
            if (what == 0) return (canStand ? 1 : 0) + (canFail ? 1 : 0);
            if (canStand) return canFail ? 2 : 1;
            return canFail ? 0 : 3;
        }

        int byDraws(Archive archive, int n, int seed, int what) {
            long draw = seed;
            int white = archive.white;
            int recalled = 0;
            for (int i = 0; i < n && archive.copies > 0; i++) {
                draw = draw * 16807 % 2147483647;
                int copy = (int) (draw % archive.copies);
                if (draw % 7 == 0 && archive.mayRecall(copy, white, archive.day + i)) {
                    white |= 1 << copy;
                    recalled++;
                }
                white = archive.whiteOn(white, archive.day + i + 1);
            }
            return what == 0 ? recalled : archive.standingBy(white);
        }
    }

    /** KINDS of HANDS, the BODIES by which they are asked, and THE TRACE of these. */
    private static final class Asks {
        static final int SIZE = 0, MARK = 1, TRACE_ROOM = 16, DEEPEST = 20;
        /** By KIND: the KIND that it is, too. */
        static final int[] ABOVE = {-1, 0, 1, 1, 0, 4};
        /** By KIND: the BODY that is told for it; 0: none. That of KIND 0 is lent to all. */
        static final int[] SIZE_BODIES = {10, 11, 12, 0, 13, 14};
        static final int[] MARK_BODIES = {20, 21, 24, 22, 23, 0};

        final int[] trace = new int[TRACE_ROOM];
        int left;

        static boolean isKindOf(int kind, int wanted) {
            int one = kind;
            for (int step = 0; step < KINDS && one >= 0 && one < KINDS; step++) {
                if (one == wanted) return true;
                one = ABOVE[one];
            }
            return false;
        }

        int answerOf(Archive archive, int one, int what) {
            left = 0;
            return askAnew(archive, one, what, 0);
        }

        private int askAnew(Archive archive, int one, int what, int depth) {
            int[] bodies = what == SIZE ? SIZE_BODIES : MARK_BODIES;
            return runBody(archive, nearest(bodies, archive.kinds[one]), one, depth);
        }

        private static int nearest(int[] bodies, int kind) {
            int one = kind;
            for (int step = 0; step < KINDS && one >= 0 && one < KINDS; step++) {
                if (bodies[one] != 0) return bodies[one];
                one = ABOVE[one];
            }
            return bodies[0];
        }

        private int runBody(Archive archive, int body, int one, int depth) {
            if (depth > DEEPEST) return 0;
            leave(body);
            int deeper = depth + 1;
            switch (body) {
                case 10: return archive.coins[one];
                case 11: return runBody(archive, 10, one, deeper) + askAnew(archive, one, MARK, deeper);
                case 12: return -runBody(archive, 11, one, deeper);
                case 13: return runBody(archive, 10, one, deeper) - 100;
                case 14: return 2 * runBody(archive, 13, one, deeper);
                case 20: return one;
                case 21: return runBody(archive, 20, one, deeper) + archive.unwhiteBy(one);
                case 22: return runBody(archive, 21, one, deeper) - 1000;
                case 23: return runBody(archive, 20, one, deeper) - askAnew(archive, one, SIZE, deeper);
                case 24: return 2 * runBody(archive, 21, one, deeper);
                default: return 0;
            }
        }

        private void leave(int body) {
            if (left < TRACE_ROOM) {
                trace[left] = body;
                left++;
            }
        }
    }
}
