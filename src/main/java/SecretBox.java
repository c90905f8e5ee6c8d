/**
 * A box of secret panels, as ../shared/DOC.md tells it. The words in capitals here are the document's.
 *
 * A STATE is one number: the PLACE of PANEL p in its two bits from bit 2p on. A move is 2 times a PANEL and its way
 * (0 IN, 1 OUT), so that moves rise as SLIDES do.
 */
public final class SecretBox {
    public static final int BAD = -1, NOT = -2, FULL = -3, NONE = -4, NULL = -11, CAST = -12, INDEX = -13, SIZE = -14;

    private static final int MOST_PANELS = 5, MOST_LOCKS = 6, DEEPEST = 3, MOST_PLACES = 15;
    private static final int PLAIN = 0, SPRUNG = 1, RING = 2, LATCH = 3, BOLT = 4;
    private static final int IN = 0, OUT = 1, BOTH = 2;
    private static final int MOST_KNOWN = 8, MOST_DRIFTS = 40, MOST_FILES_SLIDES = 60, MOST_FUMBLES = 3;
    private static final int MOST_CLICKS = 8, SO_AS_IT_IS = 64;
    private static final int MOST_STATES = 1024, MOST_MOVES = 10;
    private static final int ROWS_LEFT_OVER_BY = 1000003, LOWEST_31_BITS = 0x7fffffff;
    private static final int NEITHER = 0, WINS = 1, LOSES = 2;
    private static final int MOST_LETTERS = 90, FIRST_LETTER = 32, LAST_LETTER = 126, FAULT = -20;
    private static final int MOST_SHEETS = 4, LANES = 4, MOST_ITEMS = 24;
    /** Divided by each of 1 to 10, which is how many SLIDES there may be to choose from. */
    private static final long EVEN_SHARES = 2520;

    private final Box now = new Box();
    private final Box kept = new Box();
    /** Where a text is read to, and where a PANEL of another KIND is tried. */
    private final Box draft = new Box();
    private boolean isKept;
    private final Tape tape = new Tape();
    private final Walk walk = new Walk(now);
    private final Endgame endgame = new Endgame(now, walk);
    private final Sheet[] sheets = {new Sheet(), new Sheet(), new Sheet(), new Sheet()};

    public SecretBox() {
    }

    // ---- 1 panels, locks

    public int panel(int kind, int deep) {
        if (kind < PLAIN || kind > BOLT || deep < 1 || deep > DEEPEST) return BAD;
        if (now.panels >= MOST_PANELS) return FULL;
        now.forget();
        return now.addPanel(kind, deep);
    }

    public int lock(int panel, int way, int other, int places) {
        if (!now.hasPanel(panel) || !now.hasPanel(other) || panel == other) return BAD;
        if (way < IN || way > BOTH || places < 1 || places > MOST_PLACES) return BAD;
        if (now.locks >= MOST_LOCKS) return FULL;
        now.forget();
        return now.addLock(panel, way, other, places);
    }

    public int lid(int panel) {
        if (!now.hasPanel(panel)) return BAD;
        int was = now.lid;
        now.lid = panel;
        return was;
    }

    public int of(int panel, int what) {
        if (!now.hasPanel(panel)) return BAD;
        switch (what) {
            case 0: return now.kind[panel];
            case 1: return now.deep[panel];
            case 2: return placeIn(now.state, panel);
            case 3: return bit(now.maySlide(now.state, now.filed, panel, IN));
            case 4: return bit(now.maySlide(now.state, now.filed, panel, OUT));
            default: return BAD;
        }
    }

    public int at(int lock, int what) {
        if (!now.hasLock(lock)) return BAD;
        switch (what) {
            case 0: return now.owner[lock];
            case 1: return now.way[lock];
            case 2: return now.other[lock];
            case 3: return now.places[lock];
            case 4: return now.filed >> lock & 1;
            case 5: return bit(now.isMet(lock, now.state));
            default: return BAD;
        }
    }

    public int type(int letter) {
        if (letter < FIRST_LETTER || letter > LAST_LETTER) return BAD;
        return tape.write((char) letter);
    }

    public int box() {
        int answer = tape.read(draft);
        if (answer < 0) return answer;
        draft.draw = now.draw;
        now.becomes(draft);
        return answer;
    }

    public int count(int what) {
        switch (what) {
            case 0: return now.panels;
            case 1: return now.locks;
            case 2: return now.lid;
            case 3: return bit(now.isOpen(now.state));
            case 4: return now.outSet();
            case 5: return now.filed;
            case 6: return now.slidesThatMay();
            case 7: return now.state;
            case 8: return now.known;
            default: return BAD;
        }
    }

    // ---- what is done

    public int slide(int panel, int way) {
        if (!now.hasPanel(panel) || way < IN || way > OUT) return BAD;
        if (!now.maySlide(now.state, now.filed, panel, way)) return NOT;
        now.remember();
        now.state = now.behind(now.state, panel, way);
        return now.state;
    }

    public int shut() {
        int out = Integer.bitCount(now.outSet());
        if (out == 0) return NOT;
        now.remember();
        now.state = 0;
        return out;
    }

    public int file(int lock) {
        if (!now.hasLock(lock)) return BAD;
        if ((now.filed >> lock & 1) != 0) return NOT;
        now.remember();
        now.filed |= 1 << lock;
        return now.filed;
    }

    public int drift(int n) {
        if (n < 1 || n > MOST_DRIFTS) return BAD;
        for (int time = 0; time < n; time++) now.driftOnce();
        return now.state;
    }

    public int undo() {
        return now.known == 0 ? NONE : now.recall();
    }

    public int seed(int v) {
        if (v < 0) return BAD;
        int was = now.draw;
        now.draw = v;
        return was;
    }

    // ---- 2 foretold

    public int opens(int k) {
        if (k < -1) return BAD;
        if (now.panels == 0) return NONE;
        walk.from(now.state, now.filed);
        return walk.told(walk.firstOpen(), k);
    }

    public int rows() {
        if (now.panels == 0) return 0;
        walk.from(now.state, now.filed);
        return walk.rowsToOpen();
    }

    public int reach(int what) {
        if (what < 0 || what > 2) return BAD;
        if (now.panels == 0) return what == 1 ? 0 : 1;
        walk.from(now.state, now.filed);
        if (what == 0) return walk.reached;
        return what == 1 ? walk.farthest() : endgame.dead();
    }

    public int key(int what) {
        if (what < 0 || what > 1) return BAD;
        int best = NONE;
        int fewest = NONE;
        for (int lock = 0; lock < now.locks; lock++) {
            if ((now.filed >> lock & 1) != 0) continue;
            int slides = opensWith(now.filed | 1 << lock);
            if (slides >= 0 && (best < 0 || slides < fewest)) {
                best = lock;
                fewest = slides;
            }
        }
        return what == 0 ? best : fewest;
    }

    public int files(int n, int what) {
        if (n < 0 || n > MOST_FILES_SLIDES || what < 0 || what > 1) return BAD;
        if (now.panels == 0) return NONE;
        int best = NONE;
        for (int set = 0; set < 1 << now.locks; set++) {
            if ((set & now.filed) != 0) continue;
            if (best >= 0 && Integer.bitCount(set) >= Integer.bitCount(best)) continue;
            int slides = opensWith(now.filed | set);
            if (slides >= 0 && slides <= n) best = set;
        }
        if (best < 0) return NONE;
        return what == 0 ? Integer.bitCount(best) : best;
    }

    public int game(int what) {
        if (what < 0 || what > 2) return BAD;
        if (now.panels == 0) return NONE;
        walk.from(now.state, now.filed);
        endgame.solve();
        if (what == 0) return endgame.outcome[now.state];
        return what == 1 ? endgame.slides[now.state] : endgame.firstSlide(now.state);
    }

    public long fumble(int n, int what) {
        if (n < 0 || n > MOST_FUMBLES || what < 0 || what > 1) return BAD;
        long above = openShares(now, now.state, n);
        long below = evenShares(n);
        long both = greatestDivisor(above, below);
        if (both == 0) return BAD;
        return what == 0 ? above / both : below / both;
    }

    public int image() {
        kept.becomes(now);
        isKept = true;
        return 1;
    }

    public int restore() {
        if (!isKept) return NONE;
        now.becomes(kept);
        return 1;
    }

    // ---- 3 sheets

    public int to(int sheet, int lane, int i, int k) {
        if (k < -1 || now.panels == 0 || !isSheet(sheet) || !isLane(lane)) return BAD;
        int fault = sheets[sheet].fault(lane, i, now.panels);
        if (fault != 0) return fault;
        int goal = now.stateOf(sheets[sheet], i);
        if (goal < 0) return NOT;
        walk.from(now.state, now.filed);
        return walk.told(goal, k);
    }

    public int clicks(int panel, int sheet, int lane, int i, int n) {
        if (panel != NONE && !now.hasPanel(panel) || !isSheet(sheet) || !isLane(lane)) return BAD;
        if (n < 1 || n > MOST_CLICKS) return BAD;
        int fault = sheets[sheet].fault(lane, i, 2 * n);
        if (fault != 0) return fault;
        if (!areClicks(sheets[sheet], i, n)) return NOT;
        return panel == NONE ? locksByClicks(sheets[sheet], i, n) : kindsByClicks(panel, sheets[sheet], i, n);
    }

    public int film(int sheet, int lane, int i) {
        if (now.panels == 0 || !isSheet(sheet) || !isLane(lane)) return BAD;
        int fault = sheets[sheet].fault(lane, i, now.panels);
        if (fault != 0) return fault;
        for (int p = 0; p < now.panels; p++) sheets[sheet].put(i + p, placeIn(now.state, p));
        return now.panels;
    }

    public int sheet(int sheet, int lane, int n) {
        if (!isSheet(sheet) || !isLane(lane) || n > MOST_ITEMS) return BAD;
        if (n < 0) return SIZE;
        sheets[sheet].begin(lane, n);
        return n;
    }

    public int drop(int sheet) {
        if (!isSheet(sheet)) return BAD;
        return sheets[sheet].isHeld ? sheets[sheet].end() : NULL;
    }

    public int item(int sheet, int lane, int i, long v) {
        if (!isSheet(sheet) || !isLane(lane)) return BAD;
        int fault = sheets[sheet].fault(lane, i, 1);
        if (fault != 0) return fault;
        sheets[sheet].put(i, v);
        return 1;
    }

    public int copy(int from, int i, int to, int j, int n) {
        if (!isSheet(from) || !isSheet(to)) return BAD;
        if (!sheets[from].isHeld || !sheets[to].isHeld) return NULL;
        if (sheets[from].lane != sheets[to].lane) return CAST;
        if (!sheets[from].holds(i, n) || !sheets[to].holds(j, n)) return INDEX;
        System.arraycopy(sheets[from].items, i, sheets[to].items, j, n);
        return n;
    }

    // ---- what the calls above are made of

    private static int bit(boolean is) {
        return is ? 1 : 0;
    }

    private static int placeIn(int state, int panel) {
        return state >> 2 * panel & 3;
    }

    private static boolean isSheet(int sheet) {
        return sheet >= 0 && sheet < MOST_SHEETS;
    }

    private static boolean isLane(int lane) {
        return lane >= 0 && lane < LANES;
    }

    /** OPENS, were these LOCKS FILED; below 0: none. */
    private int opensWith(int filed) {
        walk.from(now.state, filed);
        return walk.told(walk.firstOpen(), -1);
    }

    private static long evenShares(int n) {
        long shares = 1;
        for (int time = 0; time < n; time++) shares *= EVEN_SHARES;
        return shares;
    }

    /** How likely THE BOX is OPEN from this STATE on within n fumbles, in shares of evenShares(n). */
    private static long openShares(Box box, int state, int n) {
        if (box.isOpen(state)) return evenShares(n);
        if (n <= 0) return 0;
        long shares = 0;
        int choices = 0;
        for (int move = 0; move < 2 * box.panels; move++) {
            if (!box.maySlide(state, box.filed, move >> 1, move & 1)) continue;
            choices++;
            shares += openShares(box, box.behind(state, move >> 1, move & 1), n - 1);
        }
        return choices == 0 ? 0 : shares * (EVEN_SHARES / choices);
    }

    private static long greatestDivisor(long a, long b) {
        // Each turn at least halves what two turns earlier was, so 128 turns end any two longs.
        for (int turn = 0; turn < 128 && b != 0; turn++) {
            long rest = a % b;
            a = b;
            b = rest;
        }
        return a;
    }

    private boolean areClicks(Sheet sheet, int i, int n) {
        for (int pair = 0; pair < n; pair++) {
            long slide = sheet.look(i + 2 * pair);
            long done = sheet.look(i + 2 * pair + 1);
            if (slide < 0 || slide / 10 >= now.panels || slide % 10 > OUT) return false;
            if (done < 0 || done > 1) return false;
        }
        return true;
    }

    /** Whether that box, where it is and with these LOCKS FILED, would click as the pairs tell. */
    private static boolean clicksSo(Box box, int filed, Sheet sheet, int i, int n) {
        int state = box.state;
        for (int pair = 0; pair < n; pair++) {
            int slide = (int) sheet.look(i + 2 * pair);
            boolean done = sheet.look(i + 2 * pair + 1) == 1;
            if (box.maySlide(state, filed, slide / 10, slide % 10) != done) return false;
            if (done) state = box.behind(state, slide / 10, slide % 10);
        }
        return true;
    }

    private int kindsByClicks(int panel, Sheet sheet, int i, int n) {
        draft.becomes(now);
        int kinds = 0;
        for (int kind = PLAIN; kind <= BOLT; kind++) {
            draft.kind[panel] = kind;
            if (clicksSo(draft, draft.filed, sheet, i, n)) kinds |= 1 << kind;
        }
        return kinds;
    }

    private int locksByClicks(Sheet sheet, int i, int n) {
        int set = clicksSo(now, now.filed, sheet, i, n) ? SO_AS_IT_IS : 0;
        for (int lock = 0; lock < now.locks; lock++) {
            if (clicksSo(now, now.filed ^ 1 << lock, sheet, i, n)) set |= 1 << lock;
        }
        return set;
    }

    /** All that an IMAGE keeps: PANELS, LOCKS, THE LID, where all is, THE DRAW, what may be UNDONE. */
    private static final class Box {
        final int[] kind = new int[MOST_PANELS];
        final int[] deep = new int[MOST_PANELS];
        int panels;
        final int[] owner = new int[MOST_LOCKS];
        final int[] way = new int[MOST_LOCKS];
        final int[] other = new int[MOST_LOCKS];
        final int[] places = new int[MOST_LOCKS];
        int locks;
        int lid;
        int state;
        int filed;
        int draw = 1;
        final int[] pastState = new int[MOST_KNOWN];
        final int[] pastFiled = new int[MOST_KNOWN];
        final int[] pastDraw = new int[MOST_KNOWN];
        int known;
        /** Where the next past comes to, round and round. */
        int nextPast;
        /** Whether PANELS or LOCKS are others than those that a Walk has charted. */
        boolean isRecast = true;

        void clear() {
            panels = 0;
            locks = 0;
            lid = 0;
            state = 0;
            filed = 0;
            forget();
            isRecast = true;
        }

        void becomes(Box like) {
            System.arraycopy(like.kind, 0, kind, 0, MOST_PANELS);
            System.arraycopy(like.deep, 0, deep, 0, MOST_PANELS);
            panels = like.panels;
            System.arraycopy(like.owner, 0, owner, 0, MOST_LOCKS);
            System.arraycopy(like.way, 0, way, 0, MOST_LOCKS);
            System.arraycopy(like.other, 0, other, 0, MOST_LOCKS);
            System.arraycopy(like.places, 0, places, 0, MOST_LOCKS);
            locks = like.locks;
            lid = like.lid;
            state = like.state;
            filed = like.filed;
            draw = like.draw;
            System.arraycopy(like.pastState, 0, pastState, 0, MOST_KNOWN);
            System.arraycopy(like.pastFiled, 0, pastFiled, 0, MOST_KNOWN);
            System.arraycopy(like.pastDraw, 0, pastDraw, 0, MOST_KNOWN);
            known = like.known;
            nextPast = like.nextPast;
            isRecast = true;
        }

        boolean hasPanel(int panel) {
            return panel >= 0 && panel < panels;
        }

        boolean hasLock(int lock) {
            return lock >= 0 && lock < locks;
        }

        int addPanel(int newKind, int newDeep) {
            if (panels >= MOST_PANELS) return FULL;
            kind[panels] = newKind;
            deep[panels] = newDeep;
            isRecast = true;
            return panels++;
        }

        int addLock(int newOwner, int newWay, int newOther, int newPlaces) {
            if (locks >= MOST_LOCKS) return FULL;
            owner[locks] = newOwner;
            way[locks] = newWay;
            other[locks] = newOther;
            places[locks] = newPlaces;
            isRecast = true;
            return locks++;
        }

        boolean isMet(int lock, int state) {
            return (places[lock] >> placeIn(state, other[lock]) & 1) != 0;
        }

        boolean isOpen(int state) {
            return hasPanel(lid) && placeIn(state, lid) == deep[lid];
        }

        int outSet() {
            int set = 0;
            for (int p = 0; p < panels; p++) {
                if (placeIn(state, p) > 0) set |= 1 << p;
            }
            return set;
        }

        int slidesThatMay() {
            int slides = 0;
            for (int move = 0; move < 2 * panels; move++) {
                if (maySlide(state, filed, move >> 1, move & 1)) slides++;
            }
            return slides;
        }

        boolean maySlide(int state, int filed, int panel, int toWay) {
            return fits(state, panel, toWay) && (holding(state, panel, toWay) & ~filed) == 0;
        }

        /** Whether there is such a PLACE and the KIND lets it, whatever LOCKS tell. */
        boolean fits(int state, int panel, int toWay) {
            if (!hasPanel(panel)) return false;
            int place = placeIn(state, panel);
            if (toWay == IN ? place == 0 : place >= deep[panel]) return false;
            boolean asRing = kind[panel] == RING || kind[panel] == BOLT && toWay == OUT;
            return !asRing || ringLets(state, panel);
        }

        private boolean ringLets(int state, int panel) {
            if (panel == 0) return true;
            int ahead = panel - 1;
            int lesser = state & (1 << 2 * ahead) - 1;
            return placeIn(state, ahead) > 0 && lesser == 0;
        }

        /** The LOCKS that hold a SLIDE in this STATE, FILED ones too. */
        int holding(int state, int panel, int toWay) {
            int set = 0;
            for (int lock = 0; lock < locks; lock++) {
                if (owner[lock] != panel || way[lock] != BOTH && way[lock] != toWay) continue;
                if (!isMet(lock, state)) set |= 1 << lock;
            }
            return set;
        }

        /** The STATE behind a SLIDE that may be done. */
        int behind(int state, int panel, int toWay) {
            int then = 0;
            for (int p = 0; p < panels; p++) {
                int place = placeIn(state, p);
                if (p == panel) place += toWay == OUT ? 1 : -1;
                else if (slipsBack(p, place)) place--;
                then |= place << 2 * p;
            }
            return then;
        }

        private boolean slipsBack(int panel, int place) {
            if (place == 0) return false;
            return kind[panel] == SPRUNG || kind[panel] == LATCH && place < deep[panel];
        }

        void driftOnce() {
            remember();
            draw = draw * 1103515245 + 12345 & LOWEST_31_BITS;
            if (panels == 0) return;
            int panel = draw / 65536 % panels;
            int toWay = draw / 128 % 2;
            if (maySlide(state, filed, panel, toWay)) state = behind(state, panel, toWay);
        }

        void forget() {
            known = 0;
            nextPast = 0;
        }

        void remember() {
            pastState[nextPast] = state;
            pastFiled[nextPast] = filed;
            pastDraw[nextPast] = draw;
            nextPast = (nextPast + 1) % MOST_KNOWN;
            if (known < MOST_KNOWN) known++;
        }

        int recall() {
            if (known == 0) return NONE;
            nextPast = (nextPast + MOST_KNOWN - 1) % MOST_KNOWN;
            state = pastState[nextPast];
            filed = pastFiled[nextPast];
            draw = pastDraw[nextPast];
            known--;
            return known;
        }

        /** The STATE that the items from i on tell; below 0: there is no such PLACE. */
        int stateOf(Sheet sheet, int i) {
            int told = 0;
            for (int p = 0; p < panels; p++) {
                long place = sheet.look(i + p);
                if (place < 0 || place > deep[p]) return NOT;
                told |= (int) place << 2 * p;
            }
            return told;
        }

        /** Whether each PLACE is one that its PANEL has. */
        boolean isState(int state) {
            for (int p = 0; p < panels; p++) {
                if (placeIn(state, p) > deep[p]) return false;
            }
            return true;
        }
    }

    /** THE TAPE, and the reading of it. Each reader below stops at the first letter that can't stand there. */
    private static final class Tape {
        private static final char END = (char) 0;
        private final char[] letters = new char[MOST_LETTERS];
        private int size;
        private int spot;

        int write(char letter) {
            if (size >= MOST_LETTERS) return FULL;
            letters[size] = letter;
            size++;
            return size;
        }

        /** Reads all to a draft and empties THE TAPE: how many PANELS, or a FAULT. */
        int read(Box draft) {
            spot = 0;
            draft.clear();
            boolean stands = readPanels(draft) && (isEnd() || accept(';') && readLocks(draft));
            size = 0;
            return stands ? draft.panels : FAULT - spot;
        }

        private boolean readPanels(Box draft) {
            boolean isLidTold = false;
            for (int p = 0; p < MOST_PANELS; p++) {
                if (p > 0 && !accept(',')) return true;
                int kind = oneOf("psrlb");
                if (kind < 0) return false;
                int deep = digit(1, DEEPEST);
                if (deep < 0) return false;
                draft.addPanel(kind, deep);
                if (!isLidTold && accept('!')) {
                    isLidTold = true;
                    draft.lid = p;
                }
            }
            return true;
        }

        private boolean readLocks(Box draft) {
            for (int lock = 0; lock < MOST_LOCKS; lock++) {
                if (lock > 0 && !accept(',')) return isEnd();
                if (!readLock(draft)) return false;
            }
            return isEnd();
        }

        private boolean readLock(Box draft) {
            int panel = digit(0, draft.panels - 1);
            if (panel < 0) return false;
            int way = oneOf("<>=");
            if (way < 0 || peek() - '0' == panel) return false;
            int other = digit(0, draft.panels - 1);
            if (!draft.hasPanel(other)) return false;
            int places = readPlaces(draft.deep[other]);
            if (places == 0) return false;
            draft.addLock(panel, way, other, places);
            return true;
        }

        /** Rising digits, as many as stand there: a set. */
        private int readPlaces(int deep) {
            int places = 0;
            int least = 0;
            for (int turn = 0; turn <= deep; turn++) {
                int place = digit(least, deep);
                if (place < 0) return places;
                places |= 1 << place;
                least = place + 1;
            }
            return places;
        }

        private char peek() {
            while (spot < size && spot < MOST_LETTERS && letters[spot] == ' ') spot++;
            return spot < size && spot < MOST_LETTERS ? letters[spot] : END;
        }

        private boolean isEnd() {
            return peek() == END;
        }

        private boolean accept(char letter) {
            if (peek() != letter) return false;
            spot++;
            return true;
        }

        private int oneOf(String some) {
            int which = some.indexOf(peek());
            if (which >= 0) spot++;
            return which;
        }

        private int digit(int least, int most) {
            int digit = peek() - '0';
            if (digit < least || digit > most) return -1;
            spot++;
            return digit;
        }
    }

    /** All STATES that can be come to from one, the near ones first, by rising rows of SLIDES. */
    private static final class Walk {
        private final Box box;
        /** For a STATE and a move, at 10 times the STATE and the move: the STATE then (-1: none), the LOCKS that hold. */
        private final int[] then = new int[MOST_STATES * MOST_MOVES];
        private final int[] held = new int[MOST_STATES * MOST_MOVES];
        final int[] order = new int[MOST_STATES];
        private final int[] far = new int[MOST_STATES];
        private final int[] cameFrom = new int[MOST_STATES];
        private final int[] cameBy = new int[MOST_STATES];
        private final int[] rowsTo = new int[MOST_STATES];
        int moves;
        int reached;
        private int start;
        private int filed;

        Walk(Box box) {
            this.box = box;
        }

        /** Walks from this STATE with these LOCKS FILED; what was walked last is not walked again. */
        void from(int state, int filedNow) {
            if (state < 0 || state >= MOST_STATES) return;
            boolean isWalked = !box.isRecast && start == state && filed == filedNow;
            if (isWalked) return;
            if (box.isRecast) chart();
            start = state;
            filed = filedNow;
            for (int s = 0; s < MOST_STATES; s++) far[s] = -1;
            far[state] = 0;
            rowsTo[state] = 1;
            order[0] = state;
            reached = 1;
            for (int head = 0; head < reached && head < MOST_STATES; head++) visit(order[head]);
        }

        private void chart() {
            moves = 2 * box.panels;
            for (int state = 0; state < 1 << moves && state < MOST_STATES; state++) {
                if (!box.isState(state)) continue;
                for (int move = 0; move < moves; move++) chartMove(state, move);
            }
            box.isRecast = false;
        }

        private void chartMove(int state, int move) {
            int panel = move >> 1;
            int way = move & 1;
            int spot = MOST_MOVES * state + move;
            then[spot] = box.fits(state, panel, way) ? box.behind(state, panel, way) : -1;
            held[spot] = box.holding(state, panel, way);
        }

        private void visit(int state) {
            for (int move = 0; move < moves; move++) {
                int next = next(state, move);
                if (next < 0) continue;
                if (far[next] < 0 && reached < MOST_STATES) {
                    far[next] = far[state] + 1;
                    cameFrom[next] = state;
                    cameBy[next] = move;
                    rowsTo[next] = 0;
                    order[reached] = next;
                    reached++;
                }
                if (far[next] == far[state] + 1) rowsTo[next] = (rowsTo[next] + rowsTo[state]) % ROWS_LEFT_OVER_BY;
            }
        }

        /** The STATE behind a move; below 0: it may not be done. */
        int next(int state, int move) {
            int spot = MOST_MOVES * state + move;
            return (held[spot] & ~filed) == 0 ? then[spot] : -1;
        }

        static int slideOf(int move) {
            return 10 * (move >> 1) + (move & 1);
        }

        int firstOpen() {
            for (int k = 0; k < reached; k++) {
                if (box.isOpen(order[k])) return order[k];
            }
            return NONE;
        }

        int farthest() {
            return reached == 0 ? 0 : far[order[reached - 1]];
        }

        /** How many SLIDES lead to a STATE (k -1), or the k-th of them. */
        int told(int goal, int k) {
            if (goal < 0 || goal >= MOST_STATES || far[goal] < 0) return NONE;
            if (k < 0) return far[goal];
            if (k >= far[goal]) return NONE;
            int state = goal;
            for (int left = far[goal]; left > k + 1; left--) state = cameFrom[state];
            return slideOf(cameBy[state]);
        }

        int rowsToOpen() {
            int first = firstOpen();
            if (first < 0) return 0;
            int rows = 0;
            for (int k = 0; k < reached; k++) {
                int state = order[k];
                if (far[state] == far[first] && box.isOpen(state)) rows = (rows + rowsTo[state]) % ROWS_LEFT_OVER_BY;
            }
            return rows;
        }
    }

    /** What is solved back from the end over the STATES of a walk: which are DEAD, the GAME. */
    private static final class Endgame {
        private final Box box;
        private final Walk walk;
        /** The ways into each STATE, a chain of (10 times the STATE that it leads from, and the move); -1 ends it. */
        private final int[] lastInto = new int[MOST_STATES];
        private final int[] earlierInto = new int[MOST_STATES * MOST_MOVES];
        /** How many moves of a STATE are not known yet to let the other one win. */
        private final int[] hopes = new int[MOST_STATES];
        private final int[] queue = new int[MOST_STATES];
        private int queued;
        final int[] outcome = new int[MOST_STATES];
        final int[] slides = new int[MOST_STATES];

        Endgame(Box box, Walk walk) {
            this.box = box;
            this.walk = walk;
        }

        private void begin() {
            for (int k = 0; k < walk.reached; k++) {
                int state = walk.order[k];
                lastInto[state] = -1;
                hopes[state] = 0;
                outcome[state] = NEITHER;
                slides[state] = 0;
            }
            for (int k = 0; k < walk.reached; k++) chain(walk.order[k]);
            queued = 0;
        }

        private void chain(int state) {
            for (int move = 0; move < walk.moves; move++) {
                int next = walk.next(state, move);
                if (next < 0) continue;
                hopes[state]++;
                int spot = MOST_MOVES * state + move;
                earlierInto[spot] = lastInto[next];
                lastInto[next] = spot;
            }
        }

        private void settle(int state, int how, int bySlides) {
            if (queued >= MOST_STATES) return;
            outcome[state] = how;
            slides[state] = bySlides;
            queue[queued] = state;
            queued++;
        }

        int dead() {
            begin();
            for (int k = 0; k < walk.reached; k++) {
                if (box.isOpen(walk.order[k])) settle(walk.order[k], WINS, 0);
            }
            for (int head = 0; head < queued && head < MOST_STATES; head++) {
                int spot = lastInto[queue[head]];
                for (int turn = 0; turn < MOST_STATES * MOST_MOVES && spot >= 0; turn++) {
                    int state = spot / MOST_MOVES;
                    if (outcome[state] == NEITHER) settle(state, WINS, 0);
                    spot = earlierInto[spot];
                }
            }
            return walk.reached - queued;
        }

        /** STATES are settled by rising numbers of SLIDES, so the first win found is the soonest, the last loss the latest. */
        void solve() {
            begin();
            for (int k = 0; k < walk.reached; k++) {
                int state = walk.order[k];
                if (box.isOpen(state) || hopes[state] == 0) settle(state, LOSES, 0);
            }
            for (int head = 0; head < queued && head < MOST_STATES; head++) {
                int spot = lastInto[queue[head]];
                for (int turn = 0; turn < MOST_STATES * MOST_MOVES && spot >= 0; turn++) {
                    learn(spot / MOST_MOVES, queue[head]);
                    spot = earlierInto[spot];
                }
            }
        }

        private void learn(int state, int next) {
            if (outcome[state] != NEITHER) return;
            if (outcome[next] == LOSES) {
                settle(state, WINS, slides[next] + 1);
                return;
            }
            hopes[state]--;
            if (hopes[state] == 0) settle(state, LOSES, slides[next] + 1);
        }

        int firstSlide(int state) {
            if (box.isOpen(state)) return NONE;
            for (int move = 0; move < walk.moves; move++) {
                int next = walk.next(state, move);
                if (next >= 0 && leadsTo(state, next)) return Walk.slideOf(move);
            }
            return NONE;
        }

        private boolean leadsTo(int state, int next) {
            if (outcome[state] == NEITHER) return outcome[next] == NEITHER;
            return outcome[next] != NEITHER && outcome[next] != outcome[state] && slides[next] + 1 == slides[state];
        }
    }

    /** Nothing, or a row of a LANE; each item stands here as the number that the LANE makes of it. */
    private static final class Sheet {
        boolean isHeld;
        int lane;
        private int size;
        final long[] items = new long[MOST_ITEMS];

        void begin(int newLane, int n) {
            isHeld = true;
            lane = newLane;
            size = n;
            for (int i = 0; i < MOST_ITEMS; i++) items[i] = 0;
        }

        int end() {
            isHeld = false;
            return size;
        }

        boolean holds(int i, int n) {
            return n >= 0 && i >= 0 && i <= size - n;
        }

        /** What the machine would find, were n items from i on taken as a row of that LANE; 0: nothing. */
        int fault(int asLane, int i, int n) {
            if (!isHeld) return NULL;
            if (lane != asLane) return CAST;
            return holds(i, n) ? 0 : INDEX;
        }

        long look(int i) {
            return holds(i, 1) ? items[i] : 0;
        }

        void put(int i, long v) {
            if (!holds(i, 1)) return;
            if (lane == 0) items[i] = (byte) v;
            else if (lane == 1) items[i] = (short) v;
            else if (lane == 2) items[i] = (int) v;
            else items[i] = v;
        }
    }
}
