import java.util.Arrays;

/**
 * A house of race timing: a shelf of things, members and pens, acts told as plans, clocks and reads,
 * a course with its results, and pages that may be cut. What each call answers stands in DOC.md.
 */
public final class RaceHouse {
    public static final int UNKNOWN = -1, OUTSIDE = -2, NO = -3, FULL = -4, NONE = -5, CUT = -6;
    public static final long LOST = Long.MIN_VALUE;

    private static final int NULL = 1, CAST = 2, INDEX = 3, STORE = 4, SIZE = 5, ZERO = 6, STATE = 7;

    private static final int SHORTS = 1, INTS = 2, FLOATS = 3, DOUBLES = 4, LETTERS = 5, BYTES = 6, MARKS = 7;
    private static final int GRID = 8, ENTRANT = 9, RUNNER = 10, ELITE = 11, PAIR = 12, WHEEL = 13;
    private static final int SENSOR = 14, MAT = 15, BEAM = 16, CAMERA = 17, ROLLS = 18, SEES = 19, PEN = 20;

    private static final int MOST_ROWS = 300, MOST_GRIDS = 30, MOST_MEMBERS = 40, MOST_PENS = 20;
    private static final int MOST_ITEMS = 20, MOST_PLACES = 8, MOST_SPLITS = 12, MOST_SPOTS = 12;
    private static final int MATS = 6, LINES = 8, MARKS_OF_LINE = 10, CHIPS = 40, READS = 120;
    private static final int BIBS = 20, WAVES = 4, CLUBS = 6, PENALTIES = 60;
    private static final int LAST_MOMENT = 1000000000;
    private static final int MIDNIGHT = 86400000;

    /** The TYPE by which each FIELD of an ENTRANT is cut; 0 is that of a long, which is not cut. */
    private static final int[] FIELD_TYPES = {SHORTS, LETTERS, BYTES, MARKS, INTS, 0, FLOATS, DOUBLES};
    /** The TYPE to which a THING is CAST ahead of each ASK. */
    private static final int[] ASK_TYPES = {ENTRANT, ROLLS, SENSOR, SEES, ENTRANT};

    private final Thing[] boxes = new Thing[30];
    private final int[] order = new int[MOST_ITEMS];
    private int rowsMade;
    private int gridsMade;
    private int membersMade;
    private int pensMade;
    private int shifted;
    private int latestFault;
    private final Acts acts;
    private final Clocks clocks;
    private final Course course;
    private final Pages paper;

    public RaceHouse() {
        acts = new Acts(new Plan());
        clocks = new Clocks();
        course = new Course(new Fit(clocks));
        paper = new Pages();
    }

    // ---- 1 the shelf

    public int row(int box, int type, int n) {
        if (!isBox(box)) return UNKNOWN;
        if (!isRowType(type) || n > MOST_ITEMS) return OUTSIDE;
        if (rowsMade >= MOST_ROWS) return FULL;
        if (n < 0) return failed(SIZE);
        boxes[box] = newRow(type, n);
        return 1;
    }

    public int put(int box, int type, int i, long v) {
        if (!isBox(box)) return UNKNOWN;
        if (!isRowType(type)) return OUTSIDE;
        Row row = rowWithItem(boxes[box], type, i);
        if (row == null) return failure();
        row.items[i] = cutTo(type, v);
        return row.items[i] == v ? 1 : 2;
    }

    public long get(int box, int type, int i) {
        if (!isBox(box) || !isRowType(type)) return LOST;
        Row row = rowWithItem(boxes[box], type, i);
        return row == null ? LOST : row.items[i];
    }

    public int size(int box, int type) {
        if (!isBox(box)) return UNKNOWN;
        if (!within(type, SHORTS, GRID) && type != PEN) return OUTSIDE;
        Thing thing = boxes[box];
        if (castFails(thing, type)) return failed(CAST);
        if (thing instanceof Row row) return row.items.length;
        if (thing instanceof Rack rack) return rack.spots.length;
        return failed(NULL);
    }

    public int grid(int box, int places, int n) {
        if (!isBox(box)) return UNKNOWN;
        if (places > MOST_PLACES || n > MOST_SPLITS) return OUTSIDE;
        boolean withRows = n >= 0 && places >= 0;
        if (gridsMade >= MOST_GRIDS || withRows && rowsMade + places > MOST_ROWS) return FULL;
        if (places < 0 || n < -1) return failed(SIZE);
        Rack grid = newGrid(places);
        if (withRows) {
            for (int i = 0; i < places; i++) grid.spots[i] = newRow(INTS, n);
        }
        boxes[box] = grid;
        return 1;
    }

    public long split(int box, int i, int j) {
        if (!isBox(box)) return LOST;
        Row row = rowOfGrid(boxes[box], i, j);
        return row == null ? LOST : row.items[j];
    }

    public int setSplit(int box, int i, int j, int v) {
        if (!isBox(box)) return UNKNOWN;
        Row row = rowOfGrid(boxes[box], i, j);
        if (row == null) return failure();
        row.items[j] = v;
        return 1;
    }

    public long stepSplit(int box, int i, int j, boolean behind) {
        if (!isBox(box)) return LOST;
        Row row = rowOfGrid(boxes[box], i, j);
        if (row == null) return LOST;
        long was = row.items[j];
        row.items[j] = cutTo(INTS, was + 1);
        return behind ? row.items[j] : was;
    }

    public int give(int box, int i, int from) {
        if (!isBox(box) || !isBox(from)) return UNKNOWN;
        return storeIn(rackWithSpot(boxes[box], GRID, i), i, boxes[from]);
    }

    public int take(int box, int from, int i) {
        if (!isBox(box) || !isBox(from)) return UNKNOWN;
        Rack grid = rackWithSpot(boxes[from], GRID, i);
        if (grid == null) return failure();
        boxes[box] = grid.spots[i];
        return 1;
    }

    public int hold(int box, int from) {
        if (!isBox(box) || !isBox(from)) return UNKNOWN;
        boxes[box] = boxes[from];
        return 1;
    }

    public int is(int box, int type) {
        if (!isBox(box)) return UNKNOWN;
        if (!within(type, 0, PEN)) return OUTSIDE;
        Thing thing = boxes[box];
        return thing != null && thing.isOf(type) ? 1 : 0;
    }

    public int alike(int a, int b) {
        if (!isBox(a) || !isBox(b)) return UNKNOWN;
        return areLike(boxes[a], boxes[b]) ? 1 : 0;
    }

    public int copy(int box, int from, boolean deep) {
        if (!isBox(box) || !isBox(from)) return UNKNOWN;
        Thing thing = boxes[from];
        if (thing == null) {
            boxes[box] = null;
            return 1;
        }
        if (!hasRoomForCopy(thing, deep)) return FULL;
        boxes[box] = copyOf(thing, deep);
        return 1;
    }

    public int shift(int from, int i, int to, int k, int n) {
        if (!isBox(from) || !isBox(to)) return UNKNOWN;
        shifted = 0;
        Thing source = boxes[from];
        Thing target = boxes[to];
        if (source == null || target == null) return failed(NULL);
        if (source instanceof Row a && target instanceof Row b && a.type == b.type) {
            return shiftItems(a, i, b, k, n);
        }
        if (source instanceof Rack a && target instanceof Rack b) return shiftSpots(a, i, b, k, n);
        return failed(STORE);
    }

    // ---- 2 members, pens

    public int member(int box, int type) {
        if (!isBox(box)) return UNKNOWN;
        if (!within(type, RUNNER, WHEEL) && !within(type, MAT, CAMERA)) return OUTSIDE;
        if (membersMade >= MOST_MEMBERS) return FULL;
        Member made = newMember(type);
        boxes[box] = made;
        return made.number;
    }

    public long says(int box, int ask) {
        if (!isBox(box) || !isAsk(ask)) return LOST;
        return answerOf(boxes[box], ask);
    }

    public int set(int box, int f, long v) {
        if (!isBox(box)) return UNKNOWN;
        if (!isField(f)) return OUTSIDE;
        Member entrant = entrantIn(box);
        if (entrant == null) return failure();
        entrant.fields[f] = cutTo(FIELD_TYPES[f], v);
        return entrant.fields[f] == v ? 1 : 2;
    }

    public long field(int box, int f) {
        if (!isBox(box) || !isField(f) && !isLink(f)) return LOST;
        Member entrant = entrantIn(box);
        if (entrant == null) return LOST;
        if (isField(f)) return entrant.fields[f];
        Member linked = f == 8 ? entrant.next : entrant.rival;
        return linked == null ? -1 : linked.number;
    }

    public long step(int box, int f, int how) {
        if (!isBox(box) || !within(how, 0, 3)) return LOST;
        if (!within(f, 0, 5) || f == 3) return LOST;
        Member entrant = entrantIn(box);
        if (entrant == null) return LOST;
        long was = entrant.fields[f];
        entrant.fields[f] = cutTo(FIELD_TYPES[f], how < 2 ? was + 1 : was - 1);
        return how == 0 || how == 2 ? was : entrant.fields[f];
    }

    public int link(int box, int which, int other) {
        if (!isBox(box) || !isBox(other)) return UNKNOWN;
        if (!isLink(which)) return OUTSIDE;
        Thing linked = boxes[other];
        if (castFails(boxes[box], ENTRANT) || castFails(linked, ENTRANT)) return failed(CAST);
        Member entrant = entrantIn(box);
        if (entrant == null) return failure();
        Member target = linked instanceof Member m ? m : null;
        if (which == 8) entrant.next = target;
        else entrant.rival = target;
        return 1;
    }

    public int team(int box) {
        if (!isBox(box)) return UNKNOWN;
        Member entrant = entrantIn(box);
        if (entrant == null) return failure();
        long met = 0;
        int count = 0;
        while (entrant != null && count <= MOST_MEMBERS) {
            long mark = 1L << entrant.number;
            if ((met & mark) != 0) return 100 + entrant.number;
            met |= mark;
            count++;
            entrant = entrant.next;
        }
        return count;
    }

    public int pen(int box, int type, int n) {
        if (!isBox(box)) return UNKNOWN;
        if (!within(type, ENTRANT, WHEEL) && type != ROLLS && type != SEES) return OUTSIDE;
        if (n > MOST_SPOTS) return OUTSIDE;
        if (pensMade >= MOST_PENS) return FULL;
        if (n < 0) return failed(SIZE);
        boxes[box] = newPen(type, n);
        return 1;
    }

    public int lead(int box, int i, int who) {
        if (!isBox(box) || !isBox(who)) return UNKNOWN;
        return storeIn(rackWithSpot(boxes[box], PEN, i), i, boxes[who]);
    }

    public int out(int box, int i, int type) {
        if (!isBox(box)) return UNKNOWN;
        if (!within(type, ENTRANT, SEES)) return OUTSIDE;
        Rack pen = rackWithSpot(boxes[box], PEN, i);
        if (pen == null) return failure();
        Thing thing = pen.spots[i];
        if (castFails(thing, type)) return failed(CAST);
        return thing instanceof Member member ? member.number : NONE;
    }

    public long asked(int box, int i, int ask) {
        if (!isBox(box) || !isAsk(ask)) return LOST;
        Rack pen = rackWithSpot(boxes[box], PEN, i);
        return pen == null ? LOST : answerOf(pen.spots[i], ask);
    }

    // ---- whole and real times

    public long whole(int op, long a, long b) {
        switch (op) {
            case 0:
                return a - b;
            case 1:
                return b == 0 ? lost(ZERO) : a / b;
            case 2:
                return b == 0 ? lost(ZERO) : a % b;
            case 3:
                return Math.max(Integer.MIN_VALUE, Math.min(Integer.MAX_VALUE, (long) (int) a + (int) b));
            case 4:
                long ahead = (b - a) % MIDNIGHT;
                return ahead < 0 ? ahead + MIDNIGHT : ahead;
            case 5:
                return timesFraction((int) a, (int) (b >> 32), (int) b);
            default:
                return LOST;
        }
    }

    public long gap(int box, int op) {
        if (!isBox(box) || !within(op, 0, 6)) return LOST;
        Row row = realRow(boxes[box]);
        if (row == null) return LOST;
        int numbers = Numbers.inOrder(row.items, order);
        if (op == 5) return row.items.length - numbers;
        if (numbers == 0) return op == 6 ? lost(ZERO) : LOST;
        long least = row.items[order[0]];
        long greatest = Numbers.greatest(row.items);
        switch (op) {
            case 0:
                return least;
            case 1:
                return greatest;
            case 2:
                return row.items[order[(numbers - 1) / 2]];
            case 3:
                return Numbers.dividedBy(Numbers.sumOf(row.items), numbers);
            case 4:
                return Numbers.added(greatest, Numbers.negated(least));
            default:
                return Numbers.asLong(Numbers.sumOf(row.items)) / numbers;
        }
    }

    public int test(int op, long x, long y, int how) {
        if (!within(op, 0, 5) || !within(how, 0, 3)) return OUTSIDE;
        int type = how >= 2 ? FLOATS : DOUBLES;
        boolean holds = Numbers.holds(op, cutTo(type, x), cutTo(type, y));
        boolean denied = how == 1 || how == 3;
        return holds != denied ? 1 : 0;
    }

    public int ranked(int box, int from) {
        if (!isBox(box) || !isBox(from)) return UNKNOWN;
        if (rowsMade >= MOST_ROWS) return FULL;
        Row row = realRow(boxes[from]);
        if (row == null) return failure();
        Numbers.inOrder(row.items, order);
        Row places = newRow(INTS, row.items.length);
        for (int i = 0; i < places.items.length; i++) places.items[i] = order[i];
        boxes[box] = places;
        return 1;
    }

    // ---- 3 acts

    public int feed(long w, int n) {
        if (!within(n, 1, 8)) return OUTSIDE;
        return acts.plan.append(w, n) ? acts.plan.length : FULL;
    }

    public int act() {
        int wrong = acts.plan.understand();
        acts.plan.length = 0;
        return wrong >= 0 ? -1000 - wrong : acts.perform();
    }

    public int outcome(int what) {
        return within(what, 0, 7) ? acts.outcomes[what] : OUTSIDE;
    }

    public long counter(int i) {
        return within(i, 0, 7) ? acts.counters[i] : LOST;
    }

    public long slip(int i) {
        return within(i, 0, acts.slipCount - 1) ? acts.slips[i] : LOST;
    }

    // ---- 4 clocks, reads

    public int mark(int mat, int local, int hut) {
        if (!isMat(mat)) return UNKNOWN;
        if (!isMoment(local) || !isMomentOrNone(hut)) return OUTSIDE;
        return clocks.addMark(mat, local, hut);
    }

    public int anew(int mat) {
        if (!isMat(mat)) return UNKNOWN;
        return clocks.addLine(mat);
    }

    public long hut(int mat, int line, int local) {
        if (!isMat(mat) || !clocks.hasLine(mat, line) || !isMoment(local)) return LOST;
        return clocks.hutTime(mat * LINES + line, local);
    }

    public int chip(int chip, int bib) {
        if (!within(chip, 0, CHIPS - 1)) return UNKNOWN;
        if (!within(bib, -1, BIBS - 1)) return OUTSIDE;
        int was = clocks.bibOfChip[chip];
        clocks.bibOfChip[chip] = bib;
        return was;
    }

    public int read(int mat, int chip, int local, int strength) {
        if (!isMat(mat)) return UNKNOWN;
        if (!within(chip, 0, CHIPS - 1) || !isMoment(local) || !within(strength, 0, 99)) return OUTSIDE;
        return clocks.addRead(mat, chip, local, strength);
    }

    public int rules(int gap, int least, int rule) {
        if (!within(gap, 0, 60000) || !within(least, 0, 99) || !within(rule, 0, 2)) return OUTSIDE;
        clocks.gap = gap;
        clocks.leastStrength = least;
        clocks.rule = rule;
        return 1;
    }

    public int readOf(int i) {
        if (!within(i, 0, clocks.readCount - 1)) return UNKNOWN;
        return clocks.kindOfRead(i);
    }

    public int passes(int mat, int bib) {
        if (!isMat(mat) || !isBib(bib)) return UNKNOWN;
        clocks.select(bib);
        return clocks.gatherPasses(mat);
    }

    public long pass(int mat, int bib, int i) {
        if (!isMat(mat) || !isBib(bib)) return LOST;
        clocks.select(bib);
        int count = clocks.gatherPasses(mat);
        return within(i, 0, count - 1) ? clocks.passTimes[i] : LOST;
    }

    // ---- 5 course, times, places

    public int place(int mat, int least) {
        if (!isMat(mat)) return UNKNOWN;
        if (!within(least, 0, 10000000)) return OUTSIDE;
        return course.fit.addPlace(mat, least);
    }

    public int fit(int bib) {
        if (!isBib(bib)) return UNKNOWN;
        course.fit.make(bib);
        return course.fit.uses;
    }

    public long used(int bib, int place) {
        if (!isBib(bib) || !isPlace(place)) return LOST;
        course.fit.make(bib);
        return course.fit.chosen[place];
    }

    public int gun(int wave, int t) {
        if (!isWave(wave)) return UNKNOWN;
        if (!isMomentOrNone(t)) return OUTSIDE;
        course.guns[wave] = t;
        return 1;
    }

    public int join(int bib, int wave, int club) {
        if (!isBib(bib) || !isWave(wave)) return UNKNOWN;
        if (!isClub(club)) return OUTSIDE;
        course.waveOf[bib] = wave;
        course.clubOf[bib] = club;
        return 1;
    }

    public long start(int bib) {
        if (!isBib(bib)) return LOST;
        course.fit.make(bib);
        return course.startTime(bib);
    }

    public int time(int source, int bib, int place, int t) {
        if (!isBib(bib) || !isPlace(place)) return UNKNOWN;
        if (!within(source, 0, 4) || source == 2 || !isMomentOrNone(t)) return OUTSIDE;
        if (source == 4) return course.giveHand(bib, place, t);
        course.giveTime(source, bib, place, t);
        return 1;
    }

    public long merged(int bib, int place) {
        if (!isBib(bib) || !isPlace(place)) return LOST;
        course.fit.make(bib);
        return course.mergedTime(bib, place);
    }

    public int source(int bib, int place) {
        if (!isBib(bib) || !isPlace(place)) return UNKNOWN;
        course.fit.make(bib);
        return course.mergedSource(bib, place);
    }

    public int penalty(int bib, int article, int ms) {
        if (!isBib(bib)) return UNKNOWN;
        if (!within(article, 0, 4) || article == 0 && !within(ms, 0, 1000000)) return OUTSIDE;
        return course.addPenalty(bib, article, ms);
    }

    public int back(int i) {
        if (!within(i, 0, course.penaltyCount - 1)) return UNKNOWN;
        int stood = course.stands[i];
        course.stands[i] = 0;
        return stood;
    }

    public int state(int bib) {
        if (!isBib(bib)) return UNKNOWN;
        int called = course.calledState(bib);
        if (called != 0) return called;
        course.fit.make(bib);
        return course.finishedTime(bib) == LOST ? 0 : 1;
    }

    public long result(int bib) {
        return isBib(bib) ? course.resultOf(bib) : LOST;
    }

    public int rank(int bib) {
        return isBib(bib) ? course.rankOf(bib) : UNKNOWN;
    }

    public long best(int club, int k) {
        return isClub(club) && within(k, 1, BIBS) ? course.bestOf(club, k) : LOST;
    }

    // ---- 6 pages

    public int keep(long v) {
        return paper.write(v);
    }

    public int cut(int n) {
        if (!within(n, -1, Pages.LONG)) return OUTSIDE;
        paper.power = n;
        return 1;
    }

    public int alter(int sector, int i, int mask) {
        if (!isSector(sector)) return UNKNOWN;
        if (!isByteOfPage(i) || !within(mask, 1, 255)) return OUTSIDE;
        int at = sector * Pages.LONG + i;
        paper.bytes[at] ^= mask;
        return paper.bytes[at];
    }

    public int doubled(int sector, int from) {
        if (!isSector(sector) || !isSector(from)) return UNKNOWN;
        System.arraycopy(paper.bytes, from * Pages.LONG, paper.bytes, sector * Pages.LONG, Pages.LONG);
        return 1;
    }

    public long kept(int i) {
        int sector = paper.sectorOfKept(i);
        return sector < 0 ? LOST : paper.valueIn(sector);
    }

    public int pages(int what) {
        return within(what, 0, 4) ? paper.howMany(what) : OUTSIDE;
    }

    public int byteOf(int sector, int i) {
        if (!isSector(sector) || !isByteOfPage(i)) return UNKNOWN;
        return paper.bytes[sector * Pages.LONG + i];
    }

    // ---- what is told

    public int told(int what) {
        switch (what) {
            case 0:
                return rowsMade;
            case 1:
                return gridsMade;
            case 2:
                return membersMade;
            case 3:
                return pensMade;
            case 4:
                return shifted;
            case 5:
                return acts.plan.length;
            case 6:
                return acts.slipCount;
            case 7:
                return clocks.readCount;
            case 8:
                return course.fit.places;
            case 9:
                return course.penaltyCount;
            case 10:
                return clocks.unread;
            default:
                return OUTSIDE;
        }
    }

    public int fault() {
        return latestFault;
    }

    // ---- numbers that are as told

    private static boolean within(int n, int least, int most) {
        return n >= least && n <= most;
    }

    private boolean isBox(int box) {
        return within(box, 0, boxes.length - 1);
    }

    private static boolean isRowType(int type) {
        return within(type, SHORTS, MARKS);
    }

    private static boolean isAsk(int ask) {
        return within(ask, 0, ASK_TYPES.length - 1);
    }

    private static boolean isField(int f) {
        return within(f, 0, FIELD_TYPES.length - 1);
    }

    private static boolean isLink(int f) {
        return f == 8 || f == 9;
    }

    private static boolean isMat(int mat) {
        return within(mat, 0, MATS - 1);
    }

    private static boolean isBib(int bib) {
        return within(bib, 0, BIBS - 1);
    }

    private static boolean isWave(int wave) {
        return within(wave, 0, WAVES - 1);
    }

    private static boolean isClub(int club) {
        return within(club, 0, CLUBS - 1);
    }

    private boolean isPlace(int place) {
        return within(place, 0, course.fit.places - 1);
    }

    private static boolean isMoment(int t) {
        return within(t, 0, LAST_MOMENT);
    }

    private static boolean isMomentOrNone(int t) {
        return within(t, -1, LAST_MOMENT);
    }

    private static boolean isSector(int sector) {
        return within(sector, 0, Pages.SECTORS - 1);
    }

    private static boolean isByteOfPage(int i) {
        return within(i, 0, Pages.LONG - 1);
    }

    // ---- faults

    /** The answer of a call whose FAULT has been noted. */
    private int failure() {
        return -10 - latestFault;
    }

    private int failed(int kind) {
        latestFault = kind;
        return failure();
    }

    private long lost(int kind) {
        latestFault = kind;
        return LOST;
    }

    private static boolean castFails(Thing thing, int type) {
        return thing != null && !thing.isOf(type);
    }

    // ---- what a call works on; null, and the FAULT is noted, where one stands in the way

    private Row rowWithItem(Thing thing, int type, int i) {
        int kind = INDEX;
        if (castFails(thing, type)) kind = CAST;
        else if (thing == null) kind = NULL;
        else if (thing instanceof Row row && within(i, 0, row.items.length - 1)) return row;
        latestFault = kind;
        return null;
    }

    private Rack rackWithSpot(Thing thing, int type, int i) {
        int kind = INDEX;
        if (castFails(thing, type)) kind = CAST;
        else if (thing == null) kind = NULL;
        else if (thing instanceof Rack rack && within(i, 0, rack.spots.length - 1)) return rack;
        latestFault = kind;
        return null;
    }

    private Row rowOfGrid(Thing thing, int i, int j) {
        Rack grid = rackWithSpot(thing, GRID, i);
        return grid == null ? null : rowWithItem(grid.spots[i], INTS, j);
    }

    private Row realRow(Thing thing) {
        int kind = thing == null ? NULL : CAST;
        if (thing instanceof Row row && (row.type == FLOATS || row.type == DOUBLES)) return row;
        latestFault = kind;
        return null;
    }

    private Member memberOf(Thing thing, int type) {
        int kind = castFails(thing, type) ? CAST : NULL;
        if (kind == NULL && thing instanceof Member member) return member;
        latestFault = kind;
        return null;
    }

    private Member entrantIn(int box) {
        return memberOf(boxes[box], ENTRANT);
    }

    private long answerOf(Thing thing, int ask) {
        Member member = memberOf(thing, ASK_TYPES[ask]);
        if (member == null) return LOST;
        return member.canAnswer(ask) ? member.answer(ask) : lost(NULL);
    }

    // ---- things that are made

    private Row newRow(int type, int n) {
        rowsMade++;
        return new Row(type, n);
    }

    private Rack newGrid(int places) {
        gridsMade++;
        return new Rack(GRID, INTS, places);
    }

    private Rack newPen(int type, int n) {
        pensMade++;
        return new Rack(PEN, type, n);
    }

    private Member newMember(int type) {
        Member made = new Member(type, membersMade);
        membersMade++;
        return made;
    }

    private boolean hasRoomForCopy(Thing thing, boolean deep) {
        if (thing instanceof Row) return rowsMade < MOST_ROWS;
        if (thing instanceof Member) return membersMade < MOST_MEMBERS;
        if (!(thing instanceof Rack rack)) return true;
        if (rack.type == PEN) return pensMade < MOST_PENS;
        int rows = deep ? rack.taken() : 0;
        return gridsMade < MOST_GRIDS && rowsMade + rows <= MOST_ROWS;
    }

    private Thing copyOf(Thing thing, boolean deep) {
        if (thing instanceof Row row) return copyOfRow(row);
        if (thing instanceof Member member) return copyOfMember(member);
        return thing instanceof Rack rack ? copyOfRack(rack, deep) : null;
    }

    private Row copyOfRow(Row row) {
        Row made = newRow(row.type, row.items.length);
        System.arraycopy(row.items, 0, made.items, 0, row.items.length);
        return made;
    }

    private Member copyOfMember(Member member) {
        Member made = newMember(member.type);
        System.arraycopy(member.fields, 0, made.fields, 0, member.fields.length);
        made.next = member.next;
        made.rival = member.rival;
        return made;
    }

    private Rack copyOfRack(Rack rack, boolean deep) {
        int n = rack.spots.length;
        Rack made = rack.type == PEN ? newPen(rack.admits, n) : newGrid(n);
        for (int i = 0; i < n; i++) {
            Thing thing = rack.spots[i];
            made.spots[i] = deep && thing instanceof Row row ? copyOfRow(row) : thing;
        }
        return made;
    }

    // ---- things that are put and moved

    private int storeIn(Rack rack, int i, Thing thing) {
        if (rack == null) return failure();
        if (!rack.takes(thing)) return failed(STORE);
        rack.spots[i] = thing;
        return 1;
    }

    private static boolean reaches(int from, int n, int length) {
        return from >= 0 && n >= 0 && n <= length && from <= length - n;
    }

    private int shiftItems(Row source, int i, Row target, int k, int n) {
        if (!reaches(i, n, source.items.length) || !reaches(k, n, target.items.length)) return failed(INDEX);
        System.arraycopy(source.items, i, target.items, k, n);
        shifted = n;
        return n;
    }

    private int shiftSpots(Rack source, int i, Rack target, int k, int n) {
        if (!reaches(i, n, source.spots.length) || !reaches(k, n, target.spots.length)) return failed(INDEX);
        // within one rack the later ones go first, lest they be overwritten; there all are taken
        boolean fromEnd = source == target && k > i;
        for (int m = 0; m < n; m++) {
            int at = fromEnd ? n - 1 - m : m;
            Thing thing = source.spots[i + at];
            if (!target.takes(thing)) return failed(STORE);
            target.spots[k + at] = thing;
            shifted++;
        }
        return n;
    }

    private static boolean areLike(Thing a, Thing b) {
        if (a == b) return true;
        if (a instanceof Row x && b instanceof Row y) return x.isLike(y);
        if (a instanceof Rack x && b instanceof Rack y) return x.isLike(y);
        if (a instanceof Member x && b instanceof Member y) return x.isLike(y);
        return false;
    }

    /** What is TOLD of v once it is PUT where a TYPE is held. */
    private static long cutTo(int type, long v) {
        switch (type) {
            case SHORTS:
                return (short) v;
            case INTS:
                return (int) v;
            case FLOATS:
                return Numbers.asFloat(v);
            case DOUBLES:
                return Numbers.asDouble(v);
            case LETTERS:
                return (char) v;
            case BYTES:
                return (byte) v;
            case MARKS:
                return v != 0 ? 1 : 0;
            default:
                return v;
        }
    }

    private long timesFraction(int a, int above, int below) {
        if (below == 0) return lost(ZERO);
        long product = (long) a * above;
        return below > 0 ? Numbers.rounded(product, below) : Numbers.rounded(-product, -(long) below);
    }

    /** What a BOX, a GRID, a PEN or a LINK may have. */
    private abstract static class Thing {
        final int type;

        Thing(int type) {
            this.type = type;
        }

        final boolean isOf(int wanted) {
            if (wanted == 0 || wanted == type) return true;
            switch (wanted) {
                case ENTRANT:
                    return within(type, RUNNER, WHEEL);
                case RUNNER:
                    return type == ELITE;
                case SENSOR:
                    return within(type, MAT, CAMERA);
                case MAT:
                    return type == BEAM;
                case ROLLS:
                    return type == WHEEL || type == BEAM;
                case SEES:
                    return type == ELITE || type == CAMERA;
                default:
                    return false;
            }
        }
    }

    /** A ROW of any TYPE; its ITEMS are held as they are TOLD. */
    private static final class Row extends Thing {
        final long[] items;

        Row(int type, int n) {
            super(type);
            items = new long[Math.max(0, n)];
        }

        boolean isLike(Row other) {
            if (type != other.type || items.length != other.items.length) return false;
            for (int i = 0; i < items.length; i++) {
                if (items[i] != other.items[i]) return false;
            }
            return true;
        }
    }

    /** A GRID, which admits ROWS of INTS, or a PEN, which admits MEMBERS of the TYPE it is made for. */
    private static final class Rack extends Thing {
        final int admits;
        final Thing[] spots;

        Rack(int type, int admits, int n) {
            super(type);
            this.admits = admits;
            spots = new Thing[Math.max(0, n)];
        }

        boolean takes(Thing thing) {
            return thing == null || thing.isOf(admits);
        }

        int taken() {
            int count = 0;
            for (int i = 0; i < spots.length; i++) {
                if (spots[i] != null) count++;
            }
            return count;
        }

        boolean isLike(Rack other) {
            if (type != other.type || admits != other.admits || spots.length != other.spots.length) return false;
            for (int i = 0; i < spots.length; i++) {
                if (!spotsMatch(spots[i], other.spots[i])) return false;
            }
            return true;
        }

        /** ROWS need only be LIKE, MEMBERS must be the very same. */
        private static boolean spotsMatch(Thing a, Thing b) {
            return a == b || a instanceof Row x && b instanceof Row y && x.isLike(y);
        }
    }

    /** An ENTRANT or a SENSOR; FIELDS are held as they are TOLD, and those of a SENSOR stay 0. */
    private static final class Member extends Thing {
        final int number;
        final int born;
        final long[] fields = new long[8];
        Member next;
        Member rival;
        private int speed;
        private int star;

        Member(int type, int number) {
            super(type);
            this.number = number;
            // BORN is asked while SPEED and STAR are still 0
            born = type == PAIR ? 1 : load();
            speed = 5;
            star = 2;
        }

        boolean isLike(Member other) {
            if (type != other.type || next != other.next || rival != other.rival) return false;
            for (int f = 0; f < fields.length; f++) {
                if (fields[f] != other.fields[f]) return false;
            }
            return true;
        }

        /** Only the LOAD of a PAIR needs another one. */
        boolean canAnswer(int ask) {
            return ask != 0 || type != PAIR || next != null;
        }

        int answer(int ask) {
            switch (ask) {
                case 0:
                    return load();
                case 1:
                    return reach();
                case 2:
                    return duty();
                case 3:
                    return glance();
                default:
                    return born;
            }
        }

        private int load() {
            int plain = 40 + number;
            int asRunner = 2 * plain + (int) fields[4];
            switch (type) {
                case RUNNER:
                    return asRunner;
                case ELITE:
                    return 3 * asRunner - glance();
                case PAIR:
                    return next == null ? plain : plain + (int) next.fields[0];
                case WHEEL:
                    return reach() + 7 + speed;
                default:
                    return plain;
            }
        }

        private int reach() {
            int turns = type == WHEEL ? number % 5 + speed : 3;
            return 10 + 2 * turns;
        }

        private int duty() {
            int asMat = 100 + number;
            switch (type) {
                case MAT:
                    return asMat;
                case BEAM:
                    return 2 * asMat + reach();
                default:
                    return 100 - glance();
            }
        }

        private int glance() {
            int sight = type == CAMERA ? 20 : (int) fields[2] + star;
            return 9 + 2 * sight;
        }
    }

    /** Doubles by their BITS, reckoned in longs, for the library has no way from BITS to a double. */
    private static final class Numbers {
        static final long SIGN = Long.MIN_VALUE;
        static final long ENDLESS = 0x7FF0000000000000L;
        static final long NO_NUMBER = 0x7FF8000000000000L;
        static final long HIDDEN = 1L << 52;
        /** Room below a 53 bit fraction in which what is rounded away is still seen. */
        static final int SPARE = 8;

        /** num by den (above 0) to the nearest, of two the even one. */
        static long rounded(long num, long den) {
            if (den <= 0) return 0;
            long whole = num / den;
            long rest = num % den;
            if (rest < 0) {
                whole--;
                rest += den;
            }
            boolean up = rest > den - rest || rest == den - rest && (whole & 1) != 0;
            return up ? whole + 1 : whole;
        }

        static boolean isNumber(long bits) {
            return (bits & ~SIGN) <= ENDLESS;
        }

        static boolean isEndless(long bits) {
            return (bits & ~SIGN) == ENDLESS;
        }

        static long negated(long bits) {
            return isNumber(bits) ? bits ^ SIGN : bits;
        }

        static long asDouble(long bits) {
            return isNumber(bits) ? bits : NO_NUMBER;
        }

        static long asFloat(long bits) {
            if (!isNumber(bits)) return NO_NUMBER;
            if (isEndless(bits)) return bits;
            return fitted(bits & SIGN, fraction(bits), exponent(bits), 24);
        }

        /** Of a finite one: the whole number that, times 2 to the exponent, is its size. */
        private static long fraction(long bits) {
            long low = bits & (HIDDEN - 1);
            return (bits & ENDLESS) == 0 ? low : low | HIDDEN;
        }

        private static int exponent(long bits) {
            int biased = (int) ((bits & ENDLESS) >> 52);
            return Math.max(1, biased) - 1075;
        }

        private static int width(long n) {
            return 64 - Long.numberOfLeadingZeros(n);
        }

        /** The nearest float (24 digits) or double (53) to n times 2 to the e, by the BITS of a double. */
        private static long fitted(long sign, long n, int e, int digits) {
            int lowest = digits == 24 ? -149 : -1074;
            int highest = digits == 24 ? 128 : 1024;
            int drop = Math.max(0, Math.max(width(n) - digits, lowest - e));
            long kept = withoutLowest(n, drop);
            if (kept == 0) return sign;
            int size = width(kept);
            int top = e + drop + size;
            if (top > highest) return sign | ENDLESS;
            if (top < -1021) return sign | kept << (e + drop + 1074);
            long shown = size > 53 ? kept >> (size - 53) : kept << (53 - size);
            return sign | (long) (top + 1022) << 52 | shown & (HIDDEN - 1);
        }

        /** n (below 2 to the 62) by 2 to the drop, to the nearest, of two the even one. */
        private static long withoutLowest(long n, int drop) {
            if (drop <= 0) return n;
            if (drop > 62) return 0;
            return rounded(n, 1L << drop);
        }

        /** n by 2 to the drop, the lowest bit told to be 1 if any below it was. */
        private static long withTrace(long n, int drop) {
            if (drop <= 0) return n;
            if (drop > 62) return n == 0 ? 0 : 1;
            long kept = n >> drop;
            return kept << drop == n ? kept : kept | 1;
        }

        static long added(long a, long b) {
            if (!isNumber(a) || !isNumber(b)) return NO_NUMBER;
            if (isEndless(a)) return isEndless(b) && a != b ? NO_NUMBER : a;
            if (isEndless(b)) return b;
            int e = Math.max(exponent(a), exponent(b));
            long total = aligned(a, e) + aligned(b, e);
            if (total == 0) return a & b & SIGN;
            return fitted(total & SIGN, Math.abs(total), e - SPARE, 53);
        }

        private static long aligned(long bits, int e) {
            long n = withTrace(fraction(bits) << SPARE, e - exponent(bits));
            return bits < 0 ? -n : n;
        }

        static long dividedBy(long a, int n) {
            if (!isNumber(a) || n <= 0) return NO_NUMBER;
            if (isEndless(a) || fraction(a) == 0) return a;
            int up = 61 - width(fraction(a));
            long wide = fraction(a) << up;
            long share = wide / n;
            if (share * n != wide) share |= 1;
            return fitted(a & SIGN, share, exponent(a) - up, 53);
        }

        /** As Java casts a double to a long. */
        static long asLong(long bits) {
            if (!isNumber(bits)) return 0;
            int e = exponent(bits);
            if (e > 10) return bits < 0 ? Long.MIN_VALUE : Long.MAX_VALUE;
            if (e < -62) return 0;
            long n = e < 0 ? fraction(bits) >> -e : fraction(bits) << e;
            return bits < 0 ? -n : n;
        }

        /** Rises with the number; the two zeros have the same. */
        private static long level(long bits) {
            return bits < 0 ? -(bits & ~SIGN) : bits;
        }

        static boolean holds(int op, long a, long b) {
            if (!isNumber(a) || !isNumber(b)) return op == 5;
            int order = Long.compare(level(a), level(b));
            switch (op) {
                case 0:
                    return order < 0;
                case 1:
                    return order <= 0;
                case 2:
                    return order > 0;
                case 3:
                    return order >= 0;
                case 4:
                    return order == 0;
                default:
                    return order != 0;
            }
        }

        private static boolean isBehind(long a, long b) {
            if (!isNumber(b)) return false;
            return !isNumber(a) || level(a) > level(b);
        }

        /** The places of items, rising, those of no number behind: how many are numbers. */
        static int inOrder(long[] items, int[] order) {
            int numbers = 0;
            int n = Math.min(items.length, order.length);
            for (int i = 0; i < n; i++) {
                if (isNumber(items[i])) numbers++;
                int at = i;
                while (at > 0 && isBehind(items[order[at - 1]], items[i])) {
                    order[at] = order[at - 1];
                    at--;
                }
                order[at] = i;
            }
            return numbers;
        }

        static long greatest(long[] items) {
            long most = NO_NUMBER;
            for (int i = 0; i < items.length; i++) {
                if (!isNumber(items[i])) continue;
                if (!isNumber(most) || level(items[i]) > level(most)) most = items[i];
            }
            return most;
        }

        static long sumOf(long[] items) {
            long sum = 0;
            for (int i = 0; i < items.length; i++) {
                if (isNumber(items[i])) sum = added(sum, items[i]);
            }
            return sum;
        }
    }

    /** THE TAPE, and the PLAN read from it: parts in the order of their signs, "}" among them. */
    private static final class Plan {
        static final int MOST_BYTES = 400;

        final char[] tape = new char[MOST_BYTES];
        int length;
        final char[] signs = new char[MOST_BYTES];
        final int[] first = new int[MOST_BYTES];
        final int[] second = new int[MOST_BYTES];
        /** Of a part with a block: which part closes it. */
        final int[] closing = new int[MOST_BYTES];
        int count;
        private final int[] open = new int[MOST_BYTES];
        private int depth;
        private int at;
        private boolean tried;

        boolean append(long w, int n) {
            if (n < 0 || n > MOST_BYTES - length) return false;
            for (int i = n - 1; i >= 0; i--) {
                tape[length] = (char) (w >> 8 * i & 255);
                length++;
            }
            return true;
        }

        /** Reads THE TAPE: -1, or the place that is WRONG. */
        int understand() {
            at = 0;
            count = 0;
            depth = 0;
            tried = false;
            for (int turn = 0; turn <= length; turn++) {
                passBlanks();
                if (at >= length) return depth == 0 ? -1 : length;
                if (!understandPart(tape[at])) return at;
            }
            return at;
        }

        private boolean understandPart(char sign) {
            boolean behindTry = tried;
            tried = false;
            switch (sign) {
                case 'l':
                case 'g':
                case 'p':
                case 'x':
                    return begin(sign) && digit(7, first);
                case 'v':
                    return begin(sign) && digit(3, first);
                case 'd':
                case 'i':
                    return begin(sign) && digit(7, first) && digit(7, second);
                case 'w':
                    return begin(sign) && digit(7, first) && number(true, 4);
                case 'a':
                    return begin(sign) && number(false, 2);
                case 'h':
                    return begin(sign) && digit(3, first) && opened();
                case 'r':
                    return begin(sign) && digit(7, first) && opened();
                case 't':
                    return begin(sign) && opened();
                case 'c':
                    return behindTry && begin(sign) && digit(7, first) && opened();
                case 'f':
                    return behindTry && begin(sign) && opened();
                case '}':
                    return depth > 0 && closed();
                default:
                    return false;
            }
        }

        private void passBlanks() {
            while (at < length && (tape[at] == 32 || tape[at] == 10)) at++;
        }

        private boolean begin(char sign) {
            signs[count] = sign;
            count++;
            at++;
            return true;
        }

        private boolean isDigit(int most) {
            return at < length && tape[at] >= '0' && tape[at] <= '0' + most;
        }

        private boolean digit(int most, int[] into) {
            passBlanks();
            if (!isDigit(most)) return false;
            into[count - 1] = tape[at] - '0';
            at++;
            return true;
        }

        private boolean number(boolean signed, int mostDigits) {
            passBlanks();
            boolean minus = signed && at < length && tape[at] == '-';
            if (minus) at++;
            int value = 0;
            int digits = 0;
            while (digits < mostDigits && isDigit(9)) {
                value = 10 * value + tape[at] - '0';
                digits++;
                at++;
            }
            second[count - 1] = minus ? -value : value;
            return digits > 0;
        }

        private boolean opened() {
            passBlanks();
            if (at >= length || tape[at] != '{') return false;
            open[depth] = count - 1;
            depth++;
            at++;
            return true;
        }

        private boolean closed() {
            depth--;
            int opener = open[depth];
            closing[opener] = count;
            tried = signs[opener] == 't' || signs[opener] == 'c';
            return begin('}');
        }
    }

    /** Does a PLAN, with the blocks that stand open on a stack of its own: they may lie 133 deep. */
    private static final class Acts {
        static final int MOST_STEPS = 200, MOST_SLIPS = 60, SPENT = 8, ANSWER = 100;
        static final int FAILED_BY = 0, PUSHED_ASIDE = 1, STEPS = 2, GIVEN_BACK = 3;
        static final int MOST_HOLDS = 4, UNDONE = 5, WAKINGS = 6, CHIPS_BACK = 7;

        final Plan plan;
        final int[] counters = new int[8];
        final int[] slips = new int[MOST_SLIPS];
        int slipCount;
        final int[] outcomes = new int[8];
        private final int[] countersBefore = new int[8];
        private int slipCountBefore;
        private final int[] lent = new int[MOST_STEPS];
        private int lentCount;
        private final int[] holds = new int[4];
        /** The parts whose blocks are open. */
        private final int[] open = new int[MOST_STEPS];
        /** Of each open block: of r how often it is still done, of f the ending that waits behind it. */
        private final int[] waiting = new int[MOST_STEPS];
        private int depth;
        private int at;
        /** 0 while it goes on; else a FAULT, SPENT, or ANSWER and what is answered. */
        private int ending;

        Acts(Plan plan) {
            this.plan = plan;
        }

        int perform() {
            prepare();
            for (int turn = 0; turn < 1000000 && ending == 0 && at < plan.count; turn++) {
                if (plan.signs[at] == '}') closeBlock();
                else doStep();
                if (ending != 0 && ending != SPENT) unwind();
            }
            finish();
            if (ending == 0 || ending >= ANSWER) return ending;
            return ending == SPENT ? -20 : -10 - ending;
        }

        private void prepare() {
            System.arraycopy(counters, 0, countersBefore, 0, counters.length);
            slipCountBefore = slipCount;
            Arrays.fill(outcomes, 0);
            Arrays.fill(holds, 0);
            lentCount = 0;
            depth = 0;
            at = 0;
            ending = 0;
        }

        private void finish() {
            outcomes[GIVEN_BACK] = lentCount;
            for (int i = lentCount - 1; i >= 0; i--) {
                outcomes[CHIPS_BACK] = 8 * outcomes[CHIPS_BACK] + lent[i] + 1;
            }
            outcomes[FAILED_BY] = ending < ANSWER ? ending : 0;
            if (outcomes[FAILED_BY] == 0 && outcomes[PUSHED_ASIDE] == 0) return;
            outcomes[UNDONE] = 1;
            System.arraycopy(countersBefore, 0, counters, 0, counters.length);
            // a step prints only behind the last SLIP, so those of before are still there
            slipCount = slipCountBefore;
        }

        private void doStep() {
            if (outcomes[STEPS] >= MOST_STEPS) {
                ending = SPENT;
                return;
            }
            outcomes[STEPS]++;
            int part = at;
            int d = plan.first[part];
            at++;
            switch (plan.signs[part]) {
                case 'l':
                    lend(d);
                    break;
                case 'g':
                    giveBack(d);
                    break;
                case 'w':
                    counters[d] += plan.second[part];
                    break;
                case 'd':
                    divide(d, counters[plan.second[part]]);
                    break;
                case 'i':
                    lookUp(d, counters[plan.second[part]]);
                    break;
                case 'p':
                    print(counters[d]);
                    break;
                case 'x':
                    ending = d == 0 ? NULL : d;
                    break;
                case 'a':
                    ending = ANSWER + plan.second[part];
                    break;
                case 'v':
                    wake(d);
                    break;
                default:
                    beginBlock(part);
            }
        }

        private void lend(int chip) {
            if (lentCount >= lent.length) return;
            lent[lentCount] = chip;
            lentCount++;
        }

        private void giveBack(int chip) {
            int latest = lentCount - 1;
            while (latest >= 0 && lent[latest] != chip) latest--;
            if (latest < 0) {
                ending = STATE;
                return;
            }
            lentCount--;
            for (int i = latest; i < lentCount; i++) lent[i] = lent[i + 1];
        }

        private void divide(int d, int by) {
            if (by == 0) ending = ZERO;
            else counters[d] = 60 / by;
        }

        private void lookUp(int d, int slip) {
            if (!within(slip, 0, slipCount - 1)) ending = INDEX;
            else counters[d] = slips[slip];
        }

        private void print(int value) {
            if (slipCount >= MOST_SLIPS) {
                ending = INDEX;
                return;
            }
            slips[slipCount] = value;
            slipCount++;
        }

        private void wake(int mat) {
            if (holds[mat] == 0) ending = STATE;
            else outcomes[WAKINGS]++;
        }

        private void beginBlock(int part) {
            int d = plan.first[part];
            if (plan.signs[part] == 'r' && d == 0) {
                at = plan.closing[part] + 1;
                return;
            }
            if (plan.signs[part] == 'h') {
                holds[d]++;
                outcomes[MOST_HOLDS] = Math.max(outcomes[MOST_HOLDS], holds[d]);
            }
            enter(part, plan.signs[part] == 'r' ? d : 0);
        }

        private void enter(int part, int waits) {
            if (depth >= open.length) return;
            open[depth] = part;
            waiting[depth] = waits;
            depth++;
            at = part + 1;
        }

        private void closeBlock() {
            int next = at + 1;
            at = next;
            if (depth == 0) return;
            depth--;
            int part = open[depth];
            switch (plan.signs[part]) {
                case 'r':
                    if (waiting[depth] > 1) enter(part, waiting[depth] - 1);
                    break;
                case 'h':
                    holds[plan.first[part]]--;
                    break;
                case 'f':
                    ending = waiting[depth];
                    break;
                default:
                    goBehindCatches(next);
            }
        }

        /** Leaves the open blocks, as long as no c takes the ending and no f holds it up. */
        private void unwind() {
            while (ending != 0 && depth > 0) {
                depth--;
                int part = open[depth];
                switch (plan.signs[part]) {
                    case 'h':
                        holds[plan.first[part]]--;
                        break;
                    case 'f':
                        if (isFault(waiting[depth])) outcomes[PUSHED_ASIDE] = waiting[depth];
                        break;
                    case 't':
                        if (!caught(plan.closing[part] + 1)) goBehindCatches(plan.closing[part] + 1);
                        break;
                    case 'c':
                        goBehindCatches(plan.closing[part] + 1);
                        break;
                    default:
                        break;
                }
            }
        }

        private boolean caught(int from) {
            if (!isFault(ending)) return false;
            for (int part = from; part < plan.count && plan.signs[part] == 'c'; part = plan.closing[part] + 1) {
                if (plan.first[part] == 0 || plan.first[part] == ending) {
                    ending = 0;
                    enter(part, 0);
                    return true;
                }
            }
            return false;
        }

        /** On to the f, if there is one, behind which the ending waits; else to what follows. */
        private void goBehindCatches(int from) {
            int part = from;
            while (part < plan.count && plan.signs[part] == 'c') part = plan.closing[part] + 1;
            at = part;
            if (part >= plan.count || plan.signs[part] != 'f') return;
            enter(part, ending);
            ending = 0;
        }

        private static boolean isFault(int ending) {
            return within(ending, NULL, STATE);
        }
    }

    /** CLOCKS, CHIPS and READS, and the PASSES that are made of them. */
    private static final class Clocks {
        final int[] bibOfChip = new int[CHIPS];
        int gap = 1500;
        int leastStrength = 10;
        int rule;
        int unread;
        int readCount;
        /** The TIMES of the PASSES that were gathered last. */
        final long[] passTimes = new long[READS];
        private final int[] lineCount = new int[MATS];
        private final int[] markCount = new int[MATS * LINES];
        private final int[] locals = new int[MATS * LINES * MARKS_OF_LINE];
        private final int[] huts = new int[MATS * LINES * MARKS_OF_LINE];
        /** Of each READ its LINE, counted over all MATS. */
        private final int[] readLine = new int[READS];
        private final int[] readChip = new int[READS];
        private final int[] readLocal = new int[READS];
        private final int[] readStrength = new int[READS];
        /** The READS of the BIB that was selected last, as they came. */
        private final int[] selected = new int[READS];
        private int selectedCount;
        /** Those of them at one MAT, in order, and their HUT TIMES. */
        private final int[] sorted = new int[READS];
        private final long[] sortedTimes = new long[READS];

        Clocks() {
            Arrays.fill(bibOfChip, -1);
            Arrays.fill(lineCount, 1);
        }

        boolean hasLine(int mat, int line) {
            return within(line, 0, lineCount[mat] - 1);
        }

        private int latestLine(int mat) {
            return mat * LINES + lineCount[mat] - 1;
        }

        int addLine(int mat) {
            if (lineCount[mat] >= LINES) return FULL;
            lineCount[mat]++;
            return lineCount[mat] - 1;
        }

        int addMark(int mat, int local, int hut) {
            int line = latestLine(mat);
            if (hut < 0) {
                unread++;
                return markCount[line];
            }
            int base = line * MARKS_OF_LINE;
            int end = base + markCount[line];
            int at = base;
            while (at < end && locals[at] < local) at++;
            if (at == end || locals[at] != local) {
                if (markCount[line] >= MARKS_OF_LINE) return FULL;
                for (int i = end; i > at; i--) {
                    locals[i] = locals[i - 1];
                    huts[i] = huts[i - 1];
                }
                markCount[line]++;
            }
            locals[at] = local;
            huts[at] = hut;
            return markCount[line];
        }

        /** By a LINE, counted over all MATS. */
        long hutTime(int line, int local) {
            int base = line * MARKS_OF_LINE;
            int count = markCount[line];
            if (count == 0) return LOST;
            if (count == 1) return (long) local - locals[base] + huts[base];
            int at = base;
            while (at < base + count - 2 && locals[at + 1] <= local) at++;
            long run = (long) locals[at + 1] - locals[at];
            long rise = (long) huts[at + 1] - huts[at];
            return Numbers.rounded(huts[at] * run + ((long) local - locals[at]) * rise, run);
        }

        int addRead(int mat, int chip, int local, int strength) {
            if (readCount >= READS) return FULL;
            readLine[readCount] = latestLine(mat);
            readChip[readCount] = chip;
            readLocal[readCount] = local;
            readStrength[readCount] = strength;
            readCount++;
            return readCount - 1;
        }

        int kindOfRead(int i) {
            if (bibOfChip[readChip[i]] < 0) return 1;
            if (readStrength[i] < leastStrength) return 2;
            return hutTime(readLine[i], readLocal[i]) == LOST ? 3 : 0;
        }

        /** Ahead of gatherPasses: the READS of a BIB that are not WEAK. */
        void select(int bib) {
            selectedCount = 0;
            for (int i = 0; i < readCount; i++) {
                if (bibOfChip[readChip[i]] != bib || readStrength[i] < leastStrength) continue;
                selected[selectedCount] = i;
                selectedCount++;
            }
        }

        /** Sets passTimes, of the selected BIB at a MAT: how many there are. */
        int gatherPasses(int mat) {
            int count = 0;
            for (int i = 0; i < selectedCount; i++) {
                int line = readLine[selected[i]];
                long t = line / LINES == mat ? hutTime(line, readLocal[selected[i]]) : LOST;
                if (t == LOST) continue;
                int at = count;
                while (at > 0 && sortedTimes[at - 1] > t) {
                    sorted[at] = sorted[at - 1];
                    sortedTimes[at] = sortedTimes[at - 1];
                    at--;
                }
                sorted[at] = selected[i];
                sortedTimes[at] = t;
                count++;
            }
            return cutIntoPasses(count);
        }

        private int cutIntoPasses(int count) {
            int passes = 0;
            int begun = 0;
            for (int i = 1; i <= count; i++) {
                if (i < count && sortedTimes[i] - sortedTimes[i - 1] <= gap) continue;
                passTimes[passes] = sortedTimes[chosenOf(begun, i)];
                passes++;
                begun = i;
            }
            return passes;
        }

        /** Which of the READS from begun on, ahead of end, the rule chooses. */
        private int chosenOf(int begun, int end) {
            if (rule == 0) return begun;
            if (rule == 2) return begun + (end - begun - 1) / 2;
            int strongest = begun;
            for (int i = begun + 1; i < end; i++) {
                if (readStrength[sorted[i]] > readStrength[sorted[strongest]]) strongest = i;
            }
            return strongest;
        }
    }

    /** THE COURSE, and THE FIT of one BIB to it. */
    private static final class Fit {
        static final int MOST_PLACES_OF_COURSE = 8, MOST_TRIED = 8;

        int places;
        /** Of the BIB for which THE FIT was made last: how many PLACES it uses, and the TIMES there. */
        int uses;
        final long[] chosen = new long[MOST_PLACES_OF_COURSE];
        private final Clocks clocks;
        private final int[] mats = new int[MOST_PLACES_OF_COURSE];
        private final int[] leasts = new int[MOST_PLACES_OF_COURSE];
        private final int[] counts = new int[MOST_PLACES_OF_COURSE];
        private final long[] times = new long[MOST_PLACES_OF_COURSE * MOST_TRIED];
        /** How many PLACES, from its own on, a FIT can use that uses this PASS. */
        private final int[] most = new int[MOST_PLACES_OF_COURSE * MOST_TRIED];

        Fit(Clocks clocks) {
            this.clocks = clocks;
        }

        int addPlace(int mat, int least) {
            if (places >= MOST_PLACES_OF_COURSE) return FULL;
            mats[places] = mat;
            leasts[places] = least;
            places++;
            return places - 1;
        }

        void make(int bib) {
            clocks.select(bib);
            for (int p = 0; p < places; p++) {
                counts[p] = Math.min(MOST_TRIED, clocks.gatherPasses(mats[p]));
                System.arraycopy(clocks.passTimes, 0, times, p * MOST_TRIED, counts[p]);
            }
            uses = 0;
            for (int p = places - 1; p >= 0; p--) {
                for (int k = p * MOST_TRIED; k < p * MOST_TRIED + counts[p]; k++) {
                    most[k] = 1 + mostBehind(p, times[k]);
                    uses = Math.max(uses, most[k]);
                }
            }
            choose();
        }

        private int mostBehind(int place, long time) {
            int found = 0;
            long earliest = time;
            for (int p = place + 1; p < places; p++) {
                earliest += leasts[p];
                for (int k = p * MOST_TRIED; k < p * MOST_TRIED + counts[p]; k++) {
                    if (times[k] >= earliest) found = Math.max(found, most[k]);
                }
            }
            return found;
        }

        /** At each PLACE the least TIME with which as many as can be are still used. */
        private void choose() {
            int wanted = uses;
            long earliest = LOST;
            for (int p = 0; p < places; p++) {
                if (earliest != LOST) earliest += leasts[p];
                chosen[p] = LOST;
                for (int k = p * MOST_TRIED; k < p * MOST_TRIED + counts[p]; k++) {
                    if (most[k] != wanted || times[k] < earliest) continue;
                    chosen[p] = times[k];
                    earliest = times[k];
                    wanted--;
                    break;
                }
            }
        }
    }

    /** GUNS, SOURCES and PENALTIES, and what comes of them; what needs THE FIT finds it made. */
    private static final class Course {
        static final int HANDS = 4, SLOTS = 7, CHIP_SOURCE = 2;

        final Fit fit;
        final int[] guns = new int[WAVES];
        final int[] waveOf = new int[BIBS];
        final int[] clubOf = new int[BIBS];
        int penaltyCount;
        final int[] stands = new int[PENALTIES];
        private final int[] penaltyBib = new int[PENALTIES];
        private final int[] articles = new int[PENALTIES];
        private final int[] milliseconds = new int[PENALTIES];
        /** The time of each SOURCE, -1 without; three slots for HANDS, and that of CHIP is not used. */
        private final int[] given = new int[BIBS * Fit.MOST_PLACES_OF_COURSE * SLOTS];
        private final long[] bestResults = new long[BIBS];

        Course(Fit fit) {
            this.fit = fit;
            Arrays.fill(guns, -1);
            Arrays.fill(given, -1);
        }

        private static int slotsOf(int bib, int place) {
            return (bib * Fit.MOST_PLACES_OF_COURSE + place) * SLOTS;
        }

        void giveTime(int source, int bib, int place, int t) {
            given[slotsOf(bib, place) + source] = t;
        }

        int giveHand(int bib, int place, int t) {
            int from = slotsOf(bib, place) + HANDS;
            for (int i = from; i < from + 3; i++) {
                if (t < 0) {
                    given[i] = -1;
                } else if (given[i] < 0) {
                    given[i] = t;
                    return 1;
                }
            }
            return t < 0 ? 1 : FULL;
        }

        private long handsTime(int from) {
            int a = given[from];
            int b = given[from + 1];
            int c = given[from + 2];
            if (a < 0) return LOST;
            if (c < 0) return Math.max(a, b);
            return Math.max(Math.min(a, b), Math.min(Math.max(a, b), c));
        }

        private long timeOf(int source, int bib, int place) {
            if (source == CHIP_SOURCE) return fit.chosen[place];
            int slot = slotsOf(bib, place) + source;
            if (source == HANDS) return handsTime(slot);
            int t = given[slot];
            return t < 0 ? LOST : t;
        }

        int mergedSource(int bib, int place) {
            for (int source = 0; source <= HANDS; source++) {
                if (timeOf(source, bib, place) != LOST) return source;
            }
            return NONE;
        }

        long mergedTime(int bib, int place) {
            int source = mergedSource(bib, place);
            return source == NONE ? LOST : timeOf(source, bib, place);
        }

        long startTime(int bib) {
            if (fit.places > 0 && fit.chosen[0] != LOST) return fit.chosen[0];
            int shot = guns[waveOf[bib]];
            return shot < 0 ? LOST : shot;
        }

        /** MERGED at the last PLACE, of one that has a START. */
        long finishedTime(int bib) {
            if (fit.places == 0 || startTime(bib) == LOST) return LOST;
            return mergedTime(bib, fit.places - 1);
        }

        int addPenalty(int bib, int article, int ms) {
            if (penaltyCount >= PENALTIES) return FULL;
            penaltyBib[penaltyCount] = bib;
            articles[penaltyCount] = article;
            milliseconds[penaltyCount] = ms;
            stands[penaltyCount] = 1;
            penaltyCount++;
            return penaltyCount - 1;
        }

        private boolean standsFor(int i, int bib) {
            return stands[i] == 1 && penaltyBib[i] == bib;
        }

        /** The STATE that PENALTIES give; 0 without. */
        int calledState(int bib) {
            int called = 0;
            for (int i = 0; i < penaltyCount; i++) {
                if (!standsFor(i, bib)) continue;
                if (articles[i] == 2) return 4;
                if (articles[i] > 2) called = articles[i] - 1;
            }
            return called;
        }

        private int added(int bib) {
            int sum = 0;
            int warned = 0;
            for (int i = 0; i < penaltyCount; i++) {
                if (!standsFor(i, bib)) continue;
                if (articles[i] == 0) sum += milliseconds[i];
                if (articles[i] == 1) warned++;
            }
            return sum + warned / 3 * 10000;
        }

        long resultOf(int bib) {
            if (calledState(bib) != 0) return LOST;
            fit.make(bib);
            long t = finishedTime(bib);
            return t == LOST ? LOST : t - startTime(bib) + added(bib);
        }

        int rankOf(int bib) {
            long own = resultOf(bib);
            if (own == LOST) return NONE;
            int ahead = 0;
            for (int other = 0; other < BIBS; other++) {
                long result = resultOf(other);
                if (result != LOST && result < own) ahead++;
            }
            return 1 + ahead;
        }

        long bestOf(int club, int k) {
            int count = 0;
            for (int bib = 0; bib < BIBS; bib++) {
                long result = clubOf[bib] == club ? resultOf(bib) : LOST;
                if (result == LOST) continue;
                int at = count;
                while (at > 0 && bestResults[at - 1] > result) {
                    bestResults[at] = bestResults[at - 1];
                    at--;
                }
                bestResults[at] = result;
                count++;
            }
            if (count < k) return LOST;
            long sum = 0;
            for (int i = 0; i < k; i++) sum += bestResults[i];
            return sum;
        }
    }

    /** SECTORS with PAGES. */
    private static final class Pages {
        static final int SECTORS = 24, LONG = 16, SUM_AT = 12;

        final int[] bytes = new int[SECTORS * LONG];
        /** How many bytes more are written; -1: power stays. */
        int power = -1;
        /** Of each SECTOR as it was looked at last: the NUMBER of a WHOLE PAGE, 0 FREE, -1 LOST. */
        private final int[] found = new int[SECTORS];
        private final int[] page = new int[LONG];

        private static int sumOf(int[] of, int from) {
            int s = 0;
            for (int i = from; i < from + SUM_AT; i++) s = Integer.rotateLeft(s ^ of[i], 9) * 0x85EBCA6B;
            return s;
        }

        private static int wordIn(int[] of, int from) {
            return of[from] << 24 | of[from + 1] << 16 | of[from + 2] << 8 | of[from + 3];
        }

        private static void putWord(int[] into, int from, int word) {
            for (int i = 0; i < 4; i++) into[from + i] = word >> 24 - 8 * i & 255;
        }

        long valueIn(int sector) {
            int from = sector * LONG;
            return (long) wordIn(bytes, from + 4) << 32 | wordIn(bytes, from + 8) & 0xFFFFFFFFL;
        }

        private void look() {
            for (int sector = 0; sector < SECTORS; sector++) {
                int from = sector * LONG;
                int number = wordIn(bytes, from);
                if (number > 0 && wordIn(bytes, from + SUM_AT) == sumOf(bytes, from)) found[sector] = number;
                else found[sector] = isEmpty(from) ? 0 : -1;
            }
        }

        private boolean isEmpty(int from) {
            for (int i = from; i < from + LONG; i++) {
                if (bytes[i] != 0) return false;
            }
            return true;
        }

        int write(long v) {
            look();
            int number = 0;
            int free = -1;
            for (int sector = SECTORS - 1; sector >= 0; sector--) {
                number = Math.max(number, found[sector]);
                if (found[sector] == 0) free = sector;
            }
            if (free < 0 || number == Integer.MAX_VALUE) return FULL;
            number++;
            putWord(page, 0, number);
            putWord(page, 4, (int) (v >> 32));
            putWord(page, 8, (int) v);
            putWord(page, SUM_AT, sumOf(page, 0));
            return writePage(free * LONG) ? number : CUT;
        }

        /** Byte by byte; false: power went, and is there again. */
        private boolean writePage(int from) {
            for (int i = 0; i < LONG; i++) {
                if (power == 0) {
                    power = -1;
                    return false;
                }
                bytes[from + i] = page[i];
                if (power > 0) power--;
            }
            return true;
        }

        /** The least SECTOR with a WHOLE PAGE of the NUMBER that this one has. */
        private int firstLike(int sector) {
            for (int i = 0; i < sector; i++) {
                if (found[i] == found[sector]) return i;
            }
            return sector;
        }

        /** The SECTOR of the i-th KEPT long; -1 without. */
        int sectorOfKept(int i) {
            look();
            for (int sector = 0; sector < SECTORS; sector++) {
                if (found[sector] > 0 && firstLike(sector) == sector && keptBelow(found[sector]) == i) return sector;
            }
            return -1;
        }

        private int keptBelow(int number) {
            int count = 0;
            for (int sector = 0; sector < SECTORS; sector++) {
                if (found[sector] > 0 && found[sector] < number && firstLike(sector) == sector) count++;
            }
            return count;
        }

        int howMany(int what) {
            look();
            int count = 0;
            for (int sector = 0; sector < SECTORS; sector++) {
                if (isCounted(sector, what)) count++;
            }
            return count;
        }

        private boolean isCounted(int sector, int what) {
            switch (what) {
                case 0:
                    return found[sector] > 0 && firstLike(sector) == sector;
                case 1:
                    return found[sector] > 0;
                case 2:
                    return found[sector] == 0;
                case 3:
                    return found[sector] < 0;
                default:
                    return found[sector] > 0 && valueIn(sector) != valueIn(firstLike(sector));
            }
        }
    }
}
