/**
 * Men and women of a valley who are engaged by deputy: the valley itself, its days, what is seen of them in mind,
 * matchings, reports, figures of any length, told years, an image, and shelves.
 */
public final class EngagedByDeputy {
    private static final int MEN = 0;
    private static final int WOMEN = 1;
    private static final int SIDE_ROOM = 5;
    private static final int COUPLE_ROOM = 4;
    private static final int DEEDS = 6;
    private static final int KINDS = 6;
    private static final int FIGURES = 10;
    private static final int SHELVES = 8;
    private static final int ROW_ROOM = 100;
    private static final int MOST_LIKING = 99;
    private static final int MIND_DAYS = 60;
    private static final int LAST_DAY = 999;
    private static final int LATE = 61;

    private static final int GOES_ON = 0;
    private static final int WED = 1;
    private static final int LOST = 2;

    private static final int NOTHING = 0;
    private static final int NATURE = 1;
    private static final int ROW = 2;

    private static final int BYTES = 0;
    private static final int INTS = 1;
    private static final int LONGS = 2;

    private static final int NOBODY = -1;

    private static final int WRONG = -1;
    private static final int NO_ROOM = -2;
    private static final int NOT_SO = -3;
    private static final int NONE = -4;
    private static final int EMPTY = -11;
    private static final int OTHER_KIND = -12;
    private static final int NO_PLACE = -13;
    private static final int BELOW_NOTHING = -14;
    private static final int NO_FAILURE = -15;
    private static final int UNREADABLE = -1000;
    private static final int UNDOABLE = -2000;

    private final Steady[] natures;
    private final Shelf[] shelves;
    private final Valley now;
    private final Valley image;
    private boolean imaged;
    private final Year year;
    private final Matching matching;
    private final Figure[] parts;

    /** A valley with nobody in it. */
    public EngagedByDeputy() {
        Steady first = new Steady(0);
        Valley told = new Valley(first);
        now = told;
        matching = new Matching(told);
        image = new Valley(first);
        year = new Year(new Valley(first));
        natures = new Steady[KINDS * FIGURES];
        for (int figure = 0; figure < FIGURES; figure++) {
            natures[figure] = new Steady(figure);
            natures[FIGURES + figure] = new Warm(figure);
            natures[2 * FIGURES + figure] = new Cool(figure);
            natures[3 * FIGURES + figure] = new Jealous(figure);
            natures[4 * FIGURES + figure] = new Vain(figure);
            natures[5 * FIGURES + figure] = new Faithful(figure);
        }
        shelves = new Shelf[SHELVES];
        for (int d = 0; d < SHELVES; d++) {
            shelves[d] = new Shelf(first);
        }
        parts = new Figure[DEEDS + 1];
        for (int deeds = 0; deeds <= DEEDS; deeds++) {
            parts[deeds] = new Figure();
        }
    }

    // ---- the valley as told

    /** Promise 2: the text on a shelf comes; how many statements, or its fault. */
    public int valley(int d) {
        if (!isShelf(d)) {
            return WRONG;
        }
        Shelf text = shelves[d];
        if (text.holds == NOTHING) {
            return EMPTY;
        }
        if (text.holds != ROW || text.sort != BYTES) {
            return OTHER_KIND;
        }
        int bad = firstBadByte(text);
        if (bad >= 0) {
            return UNREADABLE - bad;
        }
        year.begin(now);
        int statements = 0;
        // letters stand in a text only where statements begin
        for (int at = 0; at < text.size; at++) {
            if (digitsBehind(text.byteAt(at)) > 0) {
                if (!doStatement(text, at)) {
                    return UNDOABLE - at;
                }
                statements++;
            }
        }
        now.takeFrom(year.valley);
        return statements;
    }

    /** Promise 3: of a one, its kind, figure, deputy, sulks, or whom it is bound to. */
    public int one(int side, int k, int what) {
        if (!now.hasOne(side, k)) {
            return WRONG;
        }
        switch (what) {
            case 0:
                return now.natureOf(side, k).kind();
            case 1:
                return now.natureOf(side, k).figure;
            case 2:
                return orNone(now.deputies[Valley.place(side, k)]);
            case 3:
                return now.natureOf(side, k).sulking();
            case 4:
                return orNone(now.boundTo[Valley.place(side, k)]);
            default:
                return WRONG;
        }
    }

    /** Promise 4: what a meeting adds to a one's likes. */
    public int grows(int side, int k, int own) {
        if (!now.hasOne(side, k) || own < 0 || own > 1) {
            return WRONG;
        }
        return now.natureOf(side, k).growth(own == 1);
    }

    /** Promise 5: what a one makes of a number that it retells. */
    public int retells(int side, int k, int v) {
        if (!now.hasOne(side, k) || v < 0 || v > MOST_LIKING) {
            return WRONG;
        }
        return now.natureOf(side, k).retold(v);
    }

    /** Promise 6: the one on a shelf comes to be one of a side. */
    public int comes(int d, int side) {
        if (!isShelf(d) || !isSide(side)) {
            return WRONG;
        }
        int refusal = shelves[d].refusalAsNature();
        if (refusal != 0) {
            return refusal;
        }
        return now.admit(side, shelves[d].nature);
    }

    /** Promise 7: likes of a one for one of the other side. */
    public int likes(int side, int k, int j) {
        return now.hasTwo(side, k, j) ? now.liking(side, k, j) : WRONG;
    }

    /** Promise 8: likes become v; what they were. */
    public int like(int side, int k, int j, int v) {
        if (!now.hasTwo(side, k, j) || v < 0 || v > MOST_LIKING) {
            return WRONG;
        }
        int before = now.liking(side, k, j);
        now.setLiking(side, k, j, v);
        return before;
    }

    /** Promise 9: a one's deputy becomes j; whom it had. */
    public int sends(int side, int k, int j) {
        if (!now.hasOne(side, k) || !now.hasOne(side, j)) {
            return WRONG;
        }
        int before = now.deputies[Valley.place(side, k)];
        now.setDeputy(side, k, j);
        return orNone(before);
    }

    /** Promise 10: a couple more; its number. */
    public int couple(int man, int woman) {
        return now.pair(man, woman);
    }

    /** Promise 11: of a couple, its two, how it is, its deeds, who does the next. */
    public int about(int couple, int what) {
        if (!now.hasCouple(couple)) {
            return WRONG;
        }
        switch (what) {
            case 0:
                return now.men[couple];
            case 1:
                return now.women[couple];
            case 2:
                return now.states[couple];
            case 3:
                return now.deedsDone[couple];
            case 4:
                return now.goesOn(couple) ? now.doer(MEN, couple) : NONE;
            case 5:
                return now.goesOn(couple) ? now.doer(WOMEN, couple) : NONE;
            default:
                return WRONG;
        }
    }

    /** Promise 12: who does a deed becomes w; what it was. */
    public int who(int deed, int w) {
        if (!isDeed(deed) || w < 0 || w > 2) {
            return WRONG;
        }
        int before = now.whos[deed];
        now.whos[deed] = w;
        return before;
    }

    /** Promise 13: the slip becomes v; what it was. */
    public int slip(int v) {
        if (v < 0 || v > MOST_LIKING) {
            return WRONG;
        }
        int before = now.slip;
        now.slip = v;
        return before;
    }

    /** Promise 14: days go by; how many deeds were done in them. */
    public int days(int n) {
        if (n < 1 || n > MIND_DAYS) {
            return WRONG;
        }
        if (now.day + n > LAST_DAY) {
            return NOT_SO;
        }
        year.begin(now);
        year.pass(n);
        now.takeFrom(year.valley);
        return year.done;
    }

    // ---- in mind

    /** Promise 15: in n days, how a couple is, its deeds, its waits, the day of its end. */
    public int fate(int couple, int n, int what) {
        if (!now.hasCouple(couple) || !isMindSpan(n) || what < 0 || what > 3) {
            return WRONG;
        }
        year.begin(now);
        year.pass(n);
        switch (what) {
            case 0:
                return year.valley.states[couple];
            case 1:
                return year.valley.deedsDone[couple];
            case 2:
                return year.waited[couple];
            default:
                return year.ended[couple] == 0 ? NONE : year.ended[couple];
        }
    }

    /** Promise 16: likes in n days. */
    public int then(int side, int k, int j, int n) {
        if (!now.hasTwo(side, k, j) || !isMindSpan(n)) {
            return WRONG;
        }
        year.begin(now);
        year.pass(n);
        return year.valley.liking(side, k, j);
    }

    /** Promise 17: whom a one is bound to in n days. */
    public int bound(int side, int k, int n) {
        if (!now.hasOne(side, k) || !isMindSpan(n)) {
            return WRONG;
        }
        year.begin(now);
        year.pass(n);
        return orNone(year.valley.boundTo[Valley.place(side, k)]);
    }

    /** Promise 18: slips in n days: how many, or the first one's day. */
    public int slips(int n, int what) {
        if (!isMindSpan(n) || what < 0 || what > 1) {
            return WRONG;
        }
        year.begin(now);
        year.pass(n);
        if (what == 0) {
            return year.slipped;
        }
        return year.slipped == 0 ? NONE : year.firstSlip;
    }

    /** Promise 19: the fewest days till no couple goes on. */
    public int soonest() {
        year.begin(now);
        for (int n = 0; n <= MIND_DAYS; n++) {
            if (year.valley.howMany(GOES_ON) == 0) {
                return n;
            }
            year.pass(1);
        }
        return NONE;
    }

    /** Promise 20: the order of couples that weds them in the fewest days, or these days. */
    public int orders(int what) {
        if (what < 0 || what > 1) {
            return WRONG;
        }
        if (now.couples == 0) {
            return NOT_SO;
        }
        int fewest = LATE * COUPLE_ROOM + 1;
        int digits = 0;
        boolean more = true;
        year.orderByNumbers();
        // 24 orders of four couples at most
        for (int i = 0; i < 24 && more; i++) {
            year.again(now);
            year.pass(MIND_DAYS);
            int together = daysTillWed();
            if (together < fewest) {
                fewest = together;
                digits = year.orderDigits();
            }
            more = year.nextOrder();
        }
        return what == 0 ? digits : fewest;
    }

    /** Promise 21: the two deputies with whom a couple is wed soonest, or the day. */
    public int deputies(int couple, int what) {
        if (!now.hasCouple(couple) || what < 0 || what > 1) {
            return WRONG;
        }
        if (!now.goesOn(couple)) {
            return NONE;
        }
        int man = now.men[couple];
        int woman = now.women[couple];
        int soonest = LATE;
        int best = NONE;
        for (int m = NOBODY; m < now.ones[MEN]; m++) {
            for (int w = NOBODY; w < now.ones[WOMEN]; w++) {
                if (m != man && w != woman) {
                    int day = dayWedWith(couple, m, w);
                    if (day < soonest) {
                        soonest = day;
                        best = 10 * (m + 1) + w + 1;
                    }
                }
            }
        }
        return what == 0 || best == NONE ? best : soonest;
    }

    /** Promise 22: who should do a deed so that most couples are wed. */
    public int bestWho(int deed) {
        if (!isDeed(deed)) {
            return WRONG;
        }
        int most = NOBODY;
        int best = 0;
        for (int w = 0; w <= 2; w++) {
            year.begin(now);
            year.valley.whos[deed] = w;
            year.pass(MIND_DAYS);
            int wed = year.valley.howMany(WED);
            if (wed > most) {
                most = wed;
                best = w;
            }
        }
        return best;
    }

    // ---- who leaves, who stays

    /** Promise 23: the first two who would leave for each other, by the row on a shelf. */
    public int leave(int d) {
        if (!isShelf(d)) {
            return WRONG;
        }
        Shelf row = shelves[d];
        int refusal = row.refusalAsRow();
        if (refusal != 0) {
            return refusal;
        }
        if (row.size != now.ones[MEN]) {
            return NO_PLACE;
        }
        matching.clear();
        for (int man = 0; man < row.size; man++) {
            long woman = row.cells[man];
            if (woman < NOBODY || woman >= now.ones[WOMEN]) {
                return NO_PLACE;
            }
            if (woman != NOBODY && !matching.joinFree(man, (int) woman)) {
                return NO_PLACE;
            }
        }
        return matching.firstLeaving();
    }

    /** Promise 24: whom a man has in the end when men ask and women keep. */
    public int stable(int man) {
        if (!now.hasOne(MEN, man)) {
            return WRONG;
        }
        matching.askAll();
        return orNone(matching.wives[man]);
    }

    /** Promise 25: how many matchings there are that no two would leave. */
    public int allStable() {
        matching.survey();
        return matching.unleft;
    }

    /** Promise 26: the most likes of a matching. */
    public int most() {
        matching.survey();
        return matching.mostLiking;
    }

    /** Promise 27: whom a man has by the first matching with most likes. */
    public int mostOf(int man) {
        if (!now.hasOne(MEN, man)) {
            return WRONG;
        }
        matching.survey();
        return orNone(matching.firstMost[man]);
    }

    // ---- reports, chains

    /** Promise 28: what v is when it has come through two deputies. */
    public int report(int side, int k, int v) {
        if (!now.hasOne(side, k) || v < 0 || v > MOST_LIKING) {
            return WRONG;
        }
        return reported(side, k, v);
    }

    /** Promise 29: how many numbers there are of which just w comes, or the least of them. */
    public int said(int side, int k, int w, int what) {
        if (!now.hasOne(side, k) || w < 0 || w > 999 || what < 0 || what > 1) {
            return WRONG;
        }
        int many = 0;
        int least = NONE;
        for (int v = MOST_LIKING; v >= 0; v--) {
            if (reported(side, k, v) == w) {
                many++;
                least = v;
            }
        }
        return what == 0 ? many : least;
    }

    /** Promise 30: which kinds fit what meetings added, or how many kinds with figures. */
    public int learnt(int d, int what) {
        if (!isShelf(d) || what < 0 || what > 1) {
            return WRONG;
        }
        int refusal = shelves[d].refusalAsRow();
        if (refusal != 0) {
            return refusal;
        }
        int bits = 0;
        int many = 0;
        for (int i = 0; i < natures.length; i++) {
            if (shelves[d].isAll(natures[i].growth(true))) {
                bits |= 1 << natures[i].kind();
                many++;
            }
        }
        return what == 0 ? bits : many;
    }

    /** Promise 31: how many deputies there are one behind the other, or whether one comes again. */
    public int chain(int side, int k, int what) {
        if (!now.hasOne(side, k) || what < 0 || what > 1) {
            return WRONG;
        }
        // the one itself stands first in its chain, so it comes again if it is a deputy behind itself
        int met = 1 << k;
        int many = 0;
        int deputy = now.deputies[Valley.place(side, k)];
        // as many steps as there can be ones, so that one surely comes again
        for (int step = 0; step < SIDE_ROOM && deputy != NOBODY; step++) {
            if ((met >> deputy & 1) == 1) {
                return what == 0 ? many : 1;
            }
            met |= 1 << deputy;
            many++;
            deputy = now.deputies[Valley.place(side, deputy)];
        }
        return what == 0 ? many : 0;
    }

    // ---- figures of any length

    /** Promise 32: in how many orders all deeds can be done: digits, or the i-th from the end. */
    public int ways(int i) {
        if (i < -1) {
            return WRONG;
        }
        // 24 deeds of four couples make 13 digits at most, so a long holds all of it
        long many = 1;
        int deeds = 0;
        for (int c = 0; c < now.couples; c++) {
            int left = now.goesOn(c) ? DEEDS - now.deedsDone[c] : 0;
            for (int k = 1; k <= left; k++) {
                deeds++;
                many = many * deeds / k;
            }
        }
        parts[0].become(many);
        return parts[0].tell(i);
    }

    /** Promise 33: in how many of ten to the n parts all deeds left are done: digits, or the i-th from the end. */
    public int thaw(int couple, int n, int t, int i) {
        if (!now.hasCouple(couple) || !isMindSpan(n) || t < 1 || t > 9 || i < -1) {
            return WRONG;
        }
        if (!now.goesOn(couple)) {
            return NOT_SO;
        }
        int left = DEEDS - now.deedsDone[couple];
        parts[0].become(1);
        for (int deeds = 1; deeds <= left; deeds++) {
            parts[deeds].become(0);
        }
        for (int day = 0; day < n; day++) {
            for (int deeds = left; deeds >= 1; deeds--) {
                parts[deeds].mix(10 - t, parts[deeds - 1], t);
            }
            parts[0].mix(10, parts[0], 0);
        }
        return parts[left].tell(i);
    }

    // ---- told years, years by seeds

    /** Promise 34: the first place of the row at which likes are not as told. */
    public int judge(int side, int k, int j, int d) {
        if (!now.hasTwo(side, k, j) || !isShelf(d)) {
            return WRONG;
        }
        Shelf row = shelves[d];
        int refusal = row.refusalAsRow();
        if (refusal != 0) {
            return refusal;
        }
        long skipped = row.leastOfSort();
        year.begin(now);
        for (int i = 0; i < row.size; i++) {
            if (row.cells[i] != skipped) {
                if (i > MIND_DAYS || row.cells[i] != year.valley.liking(side, k, j)) {
                    return i;
                }
            }
            year.pass(1);
        }
        return NONE;
    }

    /** Promise 35: how many couples are wed, or how many slips there are, in n drawn years. */
    public int seeds(int n, int z, int what) {
        if (n < 1 || n > 20 || what < 0 || what > 1) {
            return WRONG;
        }
        int wed = 0;
        int slipped = 0;
        int seed = z;
        for (int i = 0; i < n; i++) {
            year.begin(now);
            seed = year.valley.drawLikings(seed);
            year.pass(30);
            wed += year.valley.howMany(WED);
            slipped += year.slipped;
        }
        return what == 0 ? wed : slipped;
    }

    // ---- the image, what is told

    /** Promise 36: the image is taken; the day. */
    public int image() {
        image.takeFrom(now);
        imaged = true;
        return now.day;
    }

    /** Promise 37: the image is restored; the day. */
    public int restore() {
        if (!imaged) {
            return NOT_SO;
        }
        now.takeFrom(image);
        return now.day;
    }

    /** Promise 38: how many men, women, couples and so on there are. */
    public int count(int what) {
        switch (what) {
            case 0:
                return now.ones[MEN];
            case 1:
                return now.ones[WOMEN];
            case 2:
                return now.couples;
            case 3:
                return now.day;
            case 4:
                return now.slip;
            case 5:
                return now.howMany(GOES_ON);
            case 6:
                return now.howMany(WED);
            case 7:
                return now.howMany(LOST);
            default:
                return WRONG;
        }
    }

    // ---- shelves

    /** Promise 39: a shelf gets nothing, or a one of a kind with a figure. */
    public int keep(int d, int what, int k, int figure) {
        if (!isShelf(d) || what < 0 || what > 1) {
            return WRONG;
        }
        if (what == 0) {
            shelves[d].holds = NOTHING;
            return 0;
        }
        if (!isKind(k) || figure < 0 || figure >= FIGURES) {
            return WRONG;
        }
        shelves[d].holdNature(natures[k * FIGURES + figure]);
        return 0;
    }

    /** Promise 40: a shelf gets a row. */
    public int row(int d, int sort, int n) {
        if (!isShelf(d) || sort < BYTES || sort > LONGS || n > ROW_ROOM) {
            return WRONG;
        }
        if (n < 0) {
            return BELOW_NOTHING;
        }
        shelves[d].holdRow(sort, n);
        return 0;
    }

    /** Promise 41: an element of a row becomes v. */
    public int put(int d, int i, int v) {
        if (!isShelf(d)) {
            return WRONG;
        }
        int refusal = shelves[d].refusalAsRow();
        if (refusal != 0) {
            return refusal;
        }
        if (!shelves[d].hasPlace(i)) {
            return NO_PLACE;
        }
        shelves[d].store(i, v);
        return 0;
    }

    /** Promise 42: an element of a row. */
    public long element(int d, int i) throws IllegalArgumentException, IllegalStateException {
        if (!isShelf(d)) {
            throw new IllegalArgumentException("no such shelf");
        }
        if (shelves[d].holds != ROW || !shelves[d].hasPlace(i)) {
            throw new IllegalStateException("no row, or no such place");
        }
        return shelves[d].cells[i];
    }

    /** Promise 43: elements of one row come to another. */
    public int copy(int d, int i, int e, int j, int n) {
        if (!isShelf(d) || !isShelf(e)) {
            return WRONG;
        }
        Shelf from = shelves[d];
        Shelf to = shelves[e];
        if (from.holds == NOTHING || to.holds == NOTHING) {
            return EMPTY;
        }
        if (from.holds != ROW || to.holds != ROW || from.sort != to.sort) {
            return OTHER_KIND;
        }
        if (!from.hasPlaces(i, n) || !to.hasPlaces(j, n)) {
            return NO_PLACE;
        }
        System.arraycopy(from.cells, i, to.cells, j, n);
        return n;
    }

    /** Promise 44: what the one on a shelf costs. */
    public int cost(int d) {
        if (!isShelf(d)) {
            return WRONG;
        }
        int refusal = shelves[d].refusalAsNature();
        return refusal != 0 ? refusal : shelves[d].nature.price();
    }

    /** Promise 45: the failure of the one on a shelf is thrown, and caught. */
    public int toss(int d) {
        if (!isShelf(d)) {
            return WRONG;
        }
        int refusal = shelves[d].refusalAsNature();
        if (refusal != 0) {
            return refusal;
        }
        Steady nature = shelves[d].nature;
        try {
            nature.fail();
        } catch (UnsupportedOperationException e) {
            return 200 + nature.price();
        } catch (IllegalArgumentException e) {
            return 100 + nature.figure;
        } catch (IllegalStateException e) {
            return nature.figure;
        }
        return NO_FAILURE;
    }

    // ---- what several calls need

    private static boolean isSide(int side) {
        return side == MEN || side == WOMEN;
    }

    private static boolean isShelf(int d) {
        return d >= 0 && d < SHELVES;
    }

    private static boolean isDeed(int deed) {
        return deed >= 0 && deed < DEEDS;
    }

    private static boolean isKind(int kind) {
        return kind >= 0 && kind < KINDS;
    }

    private static boolean isMindSpan(int n) {
        return n >= 0 && n <= MIND_DAYS;
    }

    private static int orNone(int number) {
        return number == NOBODY ? NONE : number;
    }

    private static boolean isDigit(int sign) {
        return sign >= '0' && sign <= '9';
    }

    /** How many digits a statement has behind its letter; -1 for what is no such letter. */
    private static int digitsBehind(int letter) {
        switch (letter) {
            case 'm':
            case 'w':
            case 'c':
            case 'a':
            case 's':
            case 'y':
                return 2;
            case 'd':
                return 3;
            case 'l':
                return 5;
            default:
                return -1;
        }
    }

    /** The place of the first byte with which no text can go on, its end if something lacks; -1 without fault. */
    private static int firstBadByte(Shelf text) {
        int at = 0;
        do {
            int digits = digitsBehind(text.byteAt(at));
            if (digits < 0) {
                return at;
            }
            for (int i = 1; i <= digits; i++) {
                if (!isDigit(text.byteAt(at + i))) {
                    return at + i;
                }
            }
            if (text.byteAt(at + digits + 1) != ';') {
                return at + digits + 1;
            }
            at += digits + 2;
        } while (at < text.size);
        return -1;
    }

    /** Does the statement at a place in mind; false if it can't be done. */
    private boolean doStatement(Shelf text, int at) {
        Valley valley = year.valley;
        int first = text.digitAt(at + 1);
        int second = text.digitAt(at + 2);
        int third = text.digitAt(at + 3);
        int number = 10 * first + second;
        switch (text.byteAt(at)) {
            case 'm':
                return isKind(first) && valley.admit(MEN, natures[first * FIGURES + second]) >= 0;
            case 'w':
                return isKind(first) && valley.admit(WOMEN, natures[first * FIGURES + second]) >= 0;
            case 'l':
                if (!valley.hasTwo(first, second, third)) {
                    return false;
                }
                valley.setLiking(first, second, third, 10 * text.digitAt(at + 4) + text.digitAt(at + 5));
                return true;
            case 'd':
                if (!valley.hasOne(first, second) || !valley.hasOne(first, third)) {
                    return false;
                }
                valley.setDeputy(first, second, third);
                return true;
            case 'c':
                return valley.pair(first, second) >= 0;
            case 'a':
                if (!isDeed(first) || second > 2) {
                    return false;
                }
                valley.whos[first] = second;
                return true;
            case 's':
                valley.slip = number;
                return true;
            case 'y':
                if (number < 1 || number > MIND_DAYS || valley.day + number > LAST_DAY) {
                    return false;
                }
                year.pass(number);
                return true;
            default:
                return false;
        }
    }

    /** All days at whose ends couples were wed in the year that has gone by in mind. */
    private int daysTillWed() {
        int together = 0;
        for (int c = 0; c < now.couples; c++) {
            together += year.valley.states[c] == WED ? year.ended[c] : LATE;
        }
        return together;
    }

    /** The day on which a couple is wed with these deputies of its two (or nobody); 61 if it is not. */
    private int dayWedWith(int couple, int manDeputy, int womanDeputy) {
        year.begin(now);
        Valley valley = year.valley;
        valley.deputies[Valley.place(MEN, valley.men[couple])] = manDeputy;
        valley.deputies[Valley.place(WOMEN, valley.women[couple])] = womanDeputy;
        for (int day = 1; day <= MIND_DAYS && valley.goesOn(couple); day++) {
            year.pass(1);
        }
        return valley.states[couple] == WED ? year.ended[couple] : LATE;
    }

    private int reported(int side, int k, int v) {
        int told = v;
        int deputy = now.deputies[Valley.place(side, k)];
        for (int step = 0; step < 2 && deputy != NOBODY; step++) {
            told = now.natureOf(side, deputy).retold(told);
            deputy = now.deputies[Valley.place(side, deputy)];
        }
        return told;
    }

    // ---- kinds: each is under the class that it extends

    private static class Steady {
        final int figure;

        Steady(int figure) {
            this.figure = figure;
        }

        int kind() {
            return 0;
        }

        int growth(boolean own) {
            return 3;
        }

        int sulking() {
            return 0;
        }

        int retold(int v) {
            return v - v / 4;
        }

        int price() {
            return 5;
        }

        /** Throws this one's failure, each sort of failure as an exception of another class; returns if it has none. */
        void fail() {
            if (figure != 0) {
                throw new IllegalStateException("a plain failure");
            }
        }
    }

    private static class Warm extends Steady {
        Warm(int figure) {
            super(figure);
        }

        int kind() {
            return 1;
        }

        int growth(boolean own) {
            return super.growth(own) + 2;
        }

        int retold(int v) {
            return super.retold(v) + 2;
        }

        int price() {
            return super.price() + 2;
        }
    }

    private static final class Cool extends Steady {
        Cool(int figure) {
            super(figure);
        }

        int kind() {
            return 2;
        }

        int growth(boolean own) {
            return super.growth(own) - 2;
        }

        int sulking() {
            return super.sulking() + 1;
        }

        int retold(int v) {
            return super.retold(v) / 2;
        }

        int price() {
            return super.price() / 2;
        }
    }

    private static class Jealous extends Warm {
        Jealous(int figure) {
            super(figure);
        }

        int kind() {
            return 3;
        }

        int sulking() {
            return super.sulking() + figure;
        }

        int retold(int v) {
            return Math.max(0, super.retold(v) - figure);
        }

        int price() {
            return super.price() + sulking();
        }

        void fail() {
            if (figure != 0) {
                throw new IllegalArgumentException("a jealous failure");
            }
        }
    }

    private static final class Vain extends Jealous {
        Vain(int figure) {
            super(figure);
        }

        int kind() {
            return 4;
        }

        int growth(boolean own) {
            return super.growth(own) + figure;
        }

        int sulking() {
            return 2 * super.sulking();
        }

        int retold(int v) {
            return super.retold(v) + v;
        }

        int price() {
            return 2 * super.price();
        }

        void fail() {
            if (figure != 0) {
                throw new UnsupportedOperationException("a vain failure");
            }
        }
    }

    private static final class Faithful extends Steady {
        Faithful(int figure) {
            super(figure);
        }

        int kind() {
            return 5;
        }

        int growth(boolean own) {
            return own ? 2 * super.growth(own) : 0;
        }

        int retold(int v) {
            return v;
        }

        int price() {
            return super.price() + figure;
        }

        void fail() {
        }
    }

    // ---- all that an image holds

    private static final class Valley {
        final int[] ones = new int[2];
        final Steady[] natures = new Steady[2 * SIDE_ROOM];
        final int[] deputies = new int[2 * SIDE_ROOM];
        final int[] boundTo = new int[2 * SIDE_ROOM];
        final int[] likings = new int[2 * SIDE_ROOM * SIDE_ROOM];
        int couples;
        final int[] men = new int[COUPLE_ROOM];
        final int[] women = new int[COUPLE_ROOM];
        final int[] states = new int[COUPLE_ROOM];
        final int[] deedsDone = new int[COUPLE_ROOM];
        final int[] whos = new int[DEEDS];
        int slip = 60;
        int day;

        /** Nobody is there; places of ones to come hold the first nature, so that none is ever null. */
        Valley(Steady first) {
            for (int i = 0; i < natures.length; i++) {
                natures[i] = first;
                deputies[i] = NOBODY;
                boundTo[i] = NOBODY;
            }
            for (int i = 0; i < likings.length; i++) {
                likings[i] = 10;
            }
            for (int deed = 0; deed < DEEDS - 1; deed++) {
                whos[deed] = 1;
            }
        }

        static int place(int side, int k) {
            return side * SIDE_ROOM + k;
        }

        boolean hasOne(int side, int k) {
            return isSide(side) && k >= 0 && k < ones[side];
        }

        boolean hasTwo(int side, int k, int j) {
            return hasOne(side, k) && hasOne(1 - side, j);
        }

        boolean hasCouple(int couple) {
            return couple >= 0 && couple < couples;
        }

        boolean goesOn(int couple) {
            return states[couple] == GOES_ON;
        }

        Steady natureOf(int side, int k) {
            return natures[place(side, k)];
        }

        int liking(int side, int k, int j) {
            return likings[(side * SIDE_ROOM + k) * SIDE_ROOM + j];
        }

        void setLiking(int side, int k, int j, int v) {
            likings[(side * SIDE_ROOM + k) * SIDE_ROOM + j] = Math.max(0, Math.min(MOST_LIKING, v));
        }

        void addLiking(int side, int k, int j, int more) {
            setLiking(side, k, j, liking(side, k, j) + more);
        }

        void setDeputy(int side, int k, int j) {
            deputies[place(side, k)] = j == k ? NOBODY : j;
        }

        /** A one more of a side: its number, or the refusal. */
        int admit(int side, Steady nature) {
            int k = ones[side];
            if (k >= SIDE_ROOM) {
                return NO_ROOM;
            }
            natures[place(side, k)] = nature;
            ones[side] = k + 1;
            return k;
        }

        /** A couple more: its number, or the refusal. */
        int pair(int man, int woman) {
            if (!hasOne(MEN, man) || !hasOne(WOMEN, woman)) {
                return WRONG;
            }
            for (int c = 0; c < couples; c++) {
                if (men[c] == man && women[c] == woman) {
                    return NOT_SO;
                }
            }
            if (isBound(MEN, man) || isBound(WOMEN, woman)) {
                return NOT_SO;
            }
            if (couples >= COUPLE_ROOM) {
                return NO_ROOM;
            }
            men[couples] = man;
            women[couples] = woman;
            couples++;
            return couples - 1;
        }

        boolean isBound(int side, int k) {
            return boundTo[place(side, k)] != NOBODY;
        }

        void bind(int man, int woman) {
            boundTo[place(MEN, man)] = woman;
            boundTo[place(WOMEN, woman)] = man;
        }

        /** Whether the two are each other's own one in a couple that goes on. */
        boolean areOwn(int man, int woman) {
            for (int c = 0; c < couples; c++) {
                if (goesOn(c) && men[c] == man && women[c] == woman) {
                    return true;
                }
            }
            return false;
        }

        boolean likeAboveSlip(int man, int woman) {
            return liking(MEN, man, woman) > slip && liking(WOMEN, woman, man) > slip;
        }

        /** Who of a side does the next deed of a couple that goes on. */
        int doer(int side, int couple) {
            int k = side == MEN ? men[couple] : women[couple];
            int deed = deedsDone[couple];
            int steps = isDeed(deed) ? whos[deed] : 0;
            for (int i = 0; i < steps; i++) {
                int deputy = deputies[place(side, k)];
                if (deputy != NOBODY) {
                    k = deputy;
                }
            }
            return k;
        }

        int howMany(int state) {
            int many = 0;
            for (int c = 0; c < couples; c++) {
                if (states[c] == state) {
                    many++;
                }
            }
            return many;
        }

        /** Draws all likes by a seed; what the seed is then. */
        int drawLikings(int z) {
            int seed = z;
            for (int side = MEN; side <= WOMEN; side++) {
                for (int k = 0; k < ones[side]; k++) {
                    for (int j = 0; j < ones[1 - side]; j++) {
                        seed = seed * 1103515245 + 12345;
                        setLiking(side, k, j, (seed & 0x7fffffff) / 65536 % 60);
                    }
                }
            }
            return seed;
        }

        void takeFrom(Valley other) {
            System.arraycopy(other.ones, 0, ones, 0, ones.length);
            System.arraycopy(other.deputies, 0, deputies, 0, deputies.length);
            System.arraycopy(other.boundTo, 0, boundTo, 0, boundTo.length);
            System.arraycopy(other.likings, 0, likings, 0, likings.length);
            System.arraycopy(other.men, 0, men, 0, men.length);
            System.arraycopy(other.women, 0, women, 0, women.length);
            System.arraycopy(other.states, 0, states, 0, states.length);
            System.arraycopy(other.deedsDone, 0, deedsDone, 0, deedsDone.length);
            System.arraycopy(other.whos, 0, whos, 0, whos.length);
            couples = other.couples;
            slip = other.slip;
            day = other.day;
            for (int i = 0; i < natures.length; i++) {
                natures[i] = other.natures[i];
            }
        }
    }

    // ---- days that go by in a valley of their own, and what is noted of them

    private static final class Year {
        final Valley valley;
        final int[] order = new int[COUPLE_ROOM];
        final boolean[] busy = new boolean[2 * SIDE_ROOM];
        final int[] waited = new int[COUPLE_ROOM];
        final int[] ended = new int[COUPLE_ROOM];
        int passed;
        int done;
        int slipped;
        int firstSlip;

        Year(Valley valley) {
            this.valley = valley;
        }

        /** Begins as another valley is, couples by numbers. */
        void begin(Valley from) {
            orderByNumbers();
            again(from);
        }

        /** Begins as another valley is, couples in the order that stands. */
        void again(Valley from) {
            valley.takeFrom(from);
            passed = 0;
            done = 0;
            slipped = 0;
            firstSlip = 0;
            for (int c = 0; c < COUPLE_ROOM; c++) {
                waited[c] = 0;
                ended[c] = 0;
            }
        }

        void orderByNumbers() {
            for (int c = 0; c < COUPLE_ROOM; c++) {
                order[c] = c;
            }
        }

        int orderDigits() {
            int digits = 0;
            for (int i = 0; i < valley.couples; i++) {
                digits = 10 * digits + order[i];
            }
            return digits;
        }

        /** The next order of all couples by its digits; false behind the last. */
        boolean nextOrder() {
            int last = valley.couples - 1;
            int i = last - 1;
            while (i >= 0 && order[i] > order[i + 1]) {
                i--;
            }
            if (i < 0) {
                return false;
            }
            int j = last;
            while (j > i && order[j] < order[i]) {
                j--;
            }
            swap(i, j);
            int high = last;
            for (int low = i + 1; low < high; low++) {
                swap(low, high);
                high--;
            }
            return true;
        }

        private void swap(int i, int j) {
            int kept = order[i];
            order[i] = order[j];
            order[j] = kept;
        }

        void pass(int n) {
            for (int i = 0; i < n; i++) {
                for (int k = 0; k < busy.length; k++) {
                    busy[k] = false;
                }
                passed++;
                valley.day++;
                boolean met = false;
                for (int k = 0; k < valley.couples; k++) {
                    if (valley.goesOn(order[k]) && takeTurn(order[k])) {
                        met = true;
                    }
                }
                if (!met) {
                    waitAll(n - i - 1);
                    return;
                }
            }
        }

        /** A day without a meeting changes nothing, so all days behind it are like it. */
        private void waitAll(int n) {
            passed += n;
            valley.day += n;
            for (int c = 0; c < valley.couples; c++) {
                if (valley.goesOn(c)) {
                    waited[c] += n;
                }
            }
        }

        /** A couple's turn in a day: whether the doers of its next deed meet. */
        private boolean takeTurn(int couple) {
            int man = valley.doer(MEN, couple);
            int woman = valley.doer(WOMEN, couple);
            if (isTaken(MEN, man) || isTaken(WOMEN, woman)) {
                waited[couple]++;
                return false;
            }
            busy[Valley.place(MEN, man)] = true;
            busy[Valley.place(WOMEN, woman)] = true;
            meet(man, woman);
            sulkOver(man, woman);
            boolean themselves = man == valley.men[couple] && woman == valley.women[couple];
            if (!themselves && valley.likeAboveSlip(man, woman)) {
                bindBySlip(couple, man, woman);
            } else {
                doDeed(couple);
            }
            return true;
        }

        private boolean isTaken(int side, int k) {
            return valley.isBound(side, k) || busy[Valley.place(side, k)];
        }

        private void meet(int man, int woman) {
            boolean own = valley.areOwn(man, woman);
            valley.addLiking(MEN, man, woman, valley.natureOf(MEN, man).growth(own));
            valley.addLiking(WOMEN, woman, man, valley.natureOf(WOMEN, woman).growth(own));
        }

        private void sulkOver(int man, int woman) {
            for (int c = 0; c < valley.couples; c++) {
                if (valley.goesOn(c)) {
                    int his = valley.men[c];
                    int hers = valley.women[c];
                    if (hers == woman && his != man) {
                        valley.addLiking(MEN, his, hers, -valley.natureOf(MEN, his).sulking());
                    }
                    if (his == man && hers != woman) {
                        valley.addLiking(WOMEN, hers, his, -valley.natureOf(WOMEN, hers).sulking());
                    }
                }
            }
        }

        private void bindBySlip(int couple, int man, int woman) {
            slipped++;
            if (slipped == 1) {
                firstSlip = passed;
            }
            end(couple, LOST);
            valley.bind(man, woman);
            loseCouplesWith(man, woman);
        }

        private void doDeed(int couple) {
            done++;
            valley.deedsDone[couple]++;
            if (valley.deedsDone[couple] >= DEEDS) {
                end(couple, WED);
                valley.bind(valley.men[couple], valley.women[couple]);
                loseCouplesWith(valley.men[couple], valley.women[couple]);
            }
        }

        private void end(int couple, int state) {
            valley.states[couple] = state;
            ended[couple] = passed;
        }

        private void loseCouplesWith(int man, int woman) {
            for (int c = 0; c < valley.couples; c++) {
                if (valley.goesOn(c) && (valley.men[c] == man || valley.women[c] == woman)) {
                    end(c, LOST);
                }
            }
        }
    }

    // ---- who has whom

    private static final class Matching {
        final Valley valley;
        final int[] wives = new int[SIDE_ROOM];
        final int[] husbands = new int[SIDE_ROOM];
        final int[] firstMost = new int[SIDE_ROOM];
        final boolean[] asked = new boolean[SIDE_ROOM * SIDE_ROOM];
        int unleft;
        int mostLiking;

        Matching(Valley valley) {
            this.valley = valley;
        }

        void clear() {
            for (int k = 0; k < SIDE_ROOM; k++) {
                wives[k] = NOBODY;
                husbands[k] = NOBODY;
            }
        }

        private void join(int man, int woman) {
            wives[man] = woman;
            husbands[woman] = man;
        }

        private void part(int man, int woman) {
            wives[man] = NOBODY;
            husbands[woman] = NOBODY;
        }

        /** Joins the two if the woman has nobody yet; whether they are joined. */
        boolean joinFree(int man, int woman) {
            if (husbands[woman] != NOBODY) {
                return false;
            }
            join(man, woman);
            return true;
        }

        /** The first two who would leave for each other: 10 times him and her. */
        int firstLeaving() {
            for (int man = 0; man < valley.ones[MEN]; man++) {
                for (int woman = 0; woman < valley.ones[WOMEN]; woman++) {
                    if (wouldLeave(MEN, man, woman, wives[man]) && wouldLeave(WOMEN, woman, man, husbands[woman])) {
                        return 10 * man + woman;
                    }
                }
            }
            return NONE;
        }

        private boolean wouldLeave(int side, int k, int j, int has) {
            return has == NOBODY || valley.liking(side, k, j) > valley.liking(side, k, has);
        }

        /** Men ask till each has somebody or has asked all. */
        void askAll() {
            clear();
            for (int i = 0; i < asked.length; i++) {
                asked[i] = false;
            }
            // no man asks a woman twice, so there are no more turns than twos
            for (int turn = 0; turn < asked.length; turn++) {
                for (int man = 0; man < valley.ones[MEN]; man++) {
                    if (wives[man] == NOBODY) {
                        askNext(man);
                    }
                }
            }
        }

        private void askNext(int man) {
            int woman = NOBODY;
            for (int w = 0; w < valley.ones[WOMEN]; w++) {
                if (!asked[man * SIDE_ROOM + w]
                        && (woman == NOBODY || valley.liking(MEN, man, w) > valley.liking(MEN, man, woman))) {
                    woman = w;
                }
            }
            if (woman == NOBODY) {
                return;
            }
            asked[man * SIDE_ROOM + woman] = true;
            int rival = husbands[woman];
            if (rival == NOBODY) {
                join(man, woman);
            } else if (keepsRather(woman, man, rival)) {
                part(rival, woman);
                join(man, woman);
            }
        }

        private boolean keepsRather(int woman, int man, int rival) {
            int his = valley.liking(WOMEN, woman, man);
            int rivals = valley.liking(WOMEN, woman, rival);
            return his > rivals || his == rivals && man < rival;
        }

        /** Goes through all matchings of as many twos as there can be, men by numbers, women rising, nobody last. */
        void survey() {
            clear();
            unleft = 0;
            mostLiking = -1;
            tryMan(this, 0, Math.max(0, valley.ones[MEN] - valley.ones[WOMEN]), 0);
        }

        /** Tries for this man and all behind him; as deep as there are men, five at most. */
        private static void tryMan(Matching begun, int man, int spare, int together) {
            Valley valley = begun.valley;
            if (man >= valley.ones[MEN] || man >= SIDE_ROOM) {
                begun.noteMatching(together);
                return;
            }
            for (int woman = 0; woman < valley.ones[WOMEN]; woman++) {
                if (begun.joinFree(man, woman)) {
                    tryMan(begun, man + 1, spare, together + begun.likingOfBoth(man, woman));
                    begun.part(man, woman);
                }
            }
            if (spare > 0) {
                tryMan(begun, man + 1, spare - 1, together);
            }
        }

        private int likingOfBoth(int man, int woman) {
            return valley.liking(MEN, man, woman) + valley.liking(WOMEN, woman, man);
        }

        private void noteMatching(int together) {
            if (firstLeaving() == NONE) {
                unleft++;
            }
            if (together > mostLiking) {
                mostLiking = together;
                System.arraycopy(wives, 0, firstMost, 0, SIDE_ROOM);
            }
        }
    }

    // ---- a number of 72 digits at most; ten to the 60 is the highest that is needed

    private static final class Figure {
        private static final long BASE = 1000000000L;
        private static final int LIMB_DIGITS = 9;

        final long[] limbs = new long[8];

        void become(long v) {
            long rest = v;
            for (int i = 0; i < limbs.length; i++) {
                limbs[i] = rest % BASE;
                rest /= BASE;
            }
        }

        /** Becomes so many times itself and so many times another. */
        void mix(int times, Figure other, int otherTimes) {
            long carry = 0;
            for (int i = 0; i < limbs.length; i++) {
                carry += limbs[i] * times + other.limbs[i] * otherTimes;
                limbs[i] = carry % BASE;
                carry /= BASE;
            }
        }

        /** How many digits (i -1), or the i-th from the end. */
        int tell(int i) {
            if (i >= 0) {
                return digit(i);
            }
            int top = limbs.length * LIMB_DIGITS - 1;
            while (top > 0 && digit(top) == 0) {
                top--;
            }
            return top + 1;
        }

        private int digit(int i) {
            if (i >= limbs.length * LIMB_DIGITS) {
                return 0;
            }
            long rest = limbs[i / LIMB_DIGITS];
            for (int k = i % LIMB_DIGITS; k > 0; k--) {
                rest /= 10;
            }
            return (int) (rest % 10);
        }
    }

    // ---- a shelf: nothing, a one's nature, or a row

    private static final class Shelf {
        private static final long LEAST_BYTE = -128L;
        private static final long LEAST_INT = -2147483648L;
        private static final long LEAST_LONG = -9223372036854775808L;

        int holds = NOTHING;
        Steady nature;
        int sort;
        int size;
        long[] cells = new long[0];

        Shelf(Steady first) {
            nature = first;
        }

        void holdNature(Steady one) {
            holds = NATURE;
            nature = one;
        }

        /** The cells are made once and used again, since all calls share one room. */
        void holdRow(int newSort, int n) {
            if (cells.length < n) {
                cells = new long[ROW_ROOM];
            }
            holds = ROW;
            sort = newSort;
            size = n;
            for (int i = 0; i < n; i++) {
                cells[i] = 0;
            }
        }

        int refusalAsRow() {
            return holds == NOTHING ? EMPTY : holds == ROW ? 0 : OTHER_KIND;
        }

        int refusalAsNature() {
            return holds == NOTHING ? EMPTY : holds == NATURE ? 0 : OTHER_KIND;
        }

        boolean hasPlace(int i) {
            return i >= 0 && i < size;
        }

        boolean hasPlaces(int i, int n) {
            return n >= 0 && n <= size && i >= 0 && i <= size - n;
        }

        void store(int i, int v) {
            cells[i] = sort == BYTES ? (byte) v : v;
        }

        long leastOfSort() {
            return sort == BYTES ? LEAST_BYTE : sort == INTS ? LEAST_INT : LEAST_LONG;
        }

        /** Whether all elements are v. */
        boolean isAll(int v) {
            for (int i = 0; i < size; i++) {
                if (cells[i] != v) {
                    return false;
                }
            }
            return true;
        }

        /** The byte at a place; 0, with which no text goes on, where there is none. */
        int byteAt(int i) {
            return hasPlace(i) ? (int) cells[i] : 0;
        }

        /** The digit at a place of a text; what it answers elsewhere does not matter. */
        int digitAt(int i) {
            return byteAt(i) - '0';
        }
    }
}
