import java.util.Arrays;

/** Things of squares on a floor of squares, carried one at a time until all stands as it was drawn. */
public final class TheOtherRoom {
    public static final int NONE = -1;

    private static final int BAD = -2;
    private static final int OTHER = -3;
    private static final int NOTHING = -4;
    private static final int STUCK = -5;
    private static final int FULL = -6;

    private static final int FLATS = 4;
    private static final int DRAWINGS = 4;
    private static final int THINGS = 6;
    private static final int SHELVES = 8;
    private static final int ELEMENTS = 40;
    private static final int TAPE = 200;
    private static final int CELLS = 64;
    private static final int SPOTS = 128;
    /** How standing on the LANDING is told. */
    private static final int LANDING = 200;
    /** Where a THING is that is thought away; no place that can be told. */
    private static final int GONE = 255;
    /** A CARRY visits no place twice, so it has fewer STEPS than there are SPOTS and the LANDING. */
    private static final int MOST_STEPS = SPOTS + 1;
    private static final int MOST_CARRIES = 20;

    private static final int LONGS = 3;
    private static final int BOOLEANS = 4;
    private static final int MOVES = 10;

    private static final int MOVE = 0;
    private static final int SLIDE = 1;
    private static final int TURN = 2;
    private static final int CARRY = 3;
    private static final int OUT = 4;
    private static final int IN = 5;
    /** What a TURN says where a SLIDE tells its direction. */
    private static final int TURNED = 4;

    private static final int LAYERS = 6;
    private static final int MOST_STATES = 1000;
    private static final int SLOTS = 2048;
    private static final int GOING = 0;
    private static final int FOUND = 1;
    private static final int ENDED = 2;
    private static final int SPENT = 3;

    private final Flat[] flats = new Flat[FLATS];
    private final Flat[] kept = new Flat[FLATS];
    private final Shelf[] shelves = new Shelf[SHELVES];
    private final Tape tape = new Tape();
    private final Walk walk = new Walk();
    private final Search asked = new Search();
    private final Search underWay = new Search();
    /** The FLAT as it was at begin(): all layers of a SEARCH are of that one, whatever becomes of the FLAT. */
    private final Flat begun = new Flat();
    private final int[] scratch = new int[THINGS];
    private final int[] refusals = new int[5];
    private int flatCount = 0;
    private int keptCount = NONE;
    private boolean searching = false;

    public TheOtherRoom() {
        for (int i = 0; i < FLATS; i++) {
            flats[i] = new Flat();
            kept[i] = new Flat();
        }
        for (int i = 0; i < SHELVES; i++) {
            shelves[i] = new Shelf();
        }
    }

    // ---- SHELVES

    public int row(int s, int sort, int n) {
        Shelf shelf = shelfOf(s);
        if (shelf == null || sort < 0 || sort > BOOLEANS || n < 0 || n > ELEMENTS) {
            return refuse(BAD);
        }
        shelf.holdRow(sort, n);
        return 1;
    }

    public int set(int s, int i, long v) {
        Shelf shelf = shelfOf(s);
        if (shelf == null) {
            return refuse(BAD);
        }
        int wrong = shelf.wrongForRow();
        if (wrong != 0) {
            return refuse(wrong);
        }
        if (i < 0 || i >= shelf.size) {
            return refuse(BAD);
        }
        shelf.keep(i, v);
        return 1;
    }

    public int copy(int p, int q, int i, int j, int n) {
        Shelf from = shelfOf(p);
        Shelf to = shelfOf(q);
        if (from == null || to == null) {
            return refuse(BAD);
        }
        if (from.isMove() || to.isMove()
                || (from.holds != NONE && to.holds != NONE && from.holds != to.holds)) {
            return refuse(OTHER);
        }
        if (from.holds == NONE || to.holds == NONE) {
            return refuse(NOTHING);
        }
        if (n < 0 || i < 0 || j < 0 || n > from.size - i || n > to.size - j) {
            return refuse(BAD);
        }
        System.arraycopy(from.elements, i, to.elements, j, n);
        return n;
    }

    public long element(int s, int i) {
        Shelf shelf = shelfOf(s);
        if (shelf == null || shelf.wrongForRow() != 0) {
            return 0;
        }
        return shelf.told(i);
    }

    public int holds(int s) {
        Shelf shelf = shelfOf(s);
        return shelf == null ? NONE : shelf.holds;
    }

    public int move(int s, int kind, int thing, int told) {
        Shelf shelf = shelfOf(s);
        if (shelf == null || kind < SLIDE || kind > IN || thing < 0 || thing >= THINGS
                || !canBeTold(kind, told)) {
            return refuse(BAD);
        }
        shelf.holdMove(kind, thing, told);
        return 1;
    }

    public int says(int s, int kind) {
        Shelf shelf = shelfOf(s);
        if (shelf == null || kind < MOVE || kind > IN) {
            return refuse(BAD);
        }
        int wrong = shelf.wrongForMove();
        if (wrong != 0) {
            return refuse(wrong);
        }
        if (!shelf.isOf(kind)) {
            return refuse(OTHER);
        }
        return shelf.saysAs(kind);
    }

    public int can(int flat, int s) {
        int wrong = wrongForMoveIn(flat, s);
        if (wrong != 0) {
            return refuse(wrong);
        }
        return stepsOfMove(flatFor(flat), shelfOf(s));
    }

    public int make(int flat, int s) {
        int wrong = wrongForMoveIn(flat, s);
        if (wrong != 0) {
            return refuse(wrong);
        }
        Flat f = flatFor(flat);
        Shelf shelf = shelfOf(s);
        int n = stepsOfMove(f, shelf);
        if (n == 0 || f == null || shelf == null) {
            return refuse(STUCK);
        }
        f.stand(shelf.thing, placeOfMove(f, shelf));
        f.stepsMade += n;
        if (shelf.holds == MOVES + CARRY) {
            f.carriesMade++;
        }
        return n;
    }

    // ---- THE TAPE

    public int feed(int v, int n) {
        if (n < 1 || n > 4) {
            return refuse(BAD);
        }
        if (tape.size + n > TAPE) {
            return refuse(FULL);
        }
        for (int i = n - 1; i >= 0; i--) {
            tape.add((byte) (v >> (8 * i)));
        }
        return tape.size;
    }

    public int wipe() {
        int was = tape.size;
        tape.size = 0;
        return was;
    }

    public int flat() {
        if (flatCount < 0 || flatCount >= FLATS) {
            return refuse(FULL);
        }
        int fault = tape.readInto(flats[flatCount]);
        tape.size = 0;
        if (fault != NONE) {
            refuse(BAD);
            return -20 - fault;
        }
        flatCount++;
        return flatCount - 1;
    }

    // ---- FLATS

    public int flatOf(int flat, int what) {
        Flat f = flatFor(flat);
        if (f == null) {
            return refuse(BAD);
        }
        switch (what) {
            case 0: return f.width;
            case 1: return f.height;
            case 2: return f.count;
            case 3: return f.hands;
            case 4: return f.landing;
            case 5: return f.door;
            case 6: return f.carriesMade;
            case 7: return f.stepsMade;
            case 8: return f.landedBut(f.stands, NONE);
            default: return refuse(BAD);
        }
    }

    public int thingOf(int flat, int thing, int what) {
        Flat f = flatFor(flat);
        if (f == null || !f.hasThing(thing)) {
            return refuse(BAD);
        }
        switch (what) {
            case 0: return f.wide[thing];
            case 1: return f.high[thing];
            case 2: return f.heavy[thing];
            case 3: return f.fixed[thing] ? 1 : 0;
            case 4: return f.plain[thing] ? 1 : 0;
            case 5: return f.stands[thing];
            default: return refuse(BAD);
        }
    }

    public long floor(int flat, int what) {
        Flat f = flatFor(flat);
        if (f == null) {
            return 0;
        }
        long covered = f.coveredBut(f.stands, NONE);
        switch (what) {
            case 0: return f.floor;
            case 1: return covered;
            case 2: return f.floor & ~covered;
            default: return 0;
        }
    }

    public int at(int flat, int cell) {
        Flat f = flatFor(flat);
        if (f == null || !f.hasCell(cell)) {
            return refuse(BAD);
        }
        return f.thingAt(cell);
    }

    public long covers(int flat, int thing, int spot) {
        Flat f = flatFor(flat);
        return f == null ? 0 : f.maskAt(thing, spot);
    }

    public int wall(int flat, int cell, boolean is) {
        Flat f = flatFor(flat);
        if (f == null || !f.hasCell(cell)) {
            return refuse(BAD);
        }
        if (f.thingAt(cell) != NONE) {
            return refuse(STUCK);
        }
        long bit = 1L << cell;
        boolean was = (f.floor & bit) == 0;
        if (was == is) {
            return 0;
        }
        f.floor ^= bit;
        return 1;
    }

    public int alter(int flat, int what, int v) {
        Flat f = flatFor(flat);
        if (f == null || !f.canAlter(what, v)) {
            return refuse(BAD);
        }
        if (what == 1 && v < f.landedBut(f.stands, NONE)) {
            return refuse(STUCK);
        }
        return f.alterTo(what, v);
    }

    // ---- CARRIES

    public int steps(int flat, int thing, int told) {
        Flat f = flatFor(flat);
        if (f == null || !f.isPlace(thing, told)) {
            return refuse(BAD);
        }
        return walk.stepsTo(f, f.stands, thing, told);
    }

    public int reach(int flat, int thing) {
        Flat f = flatFor(flat);
        if (f == null || !f.hasThing(thing)) {
            return refuse(BAD);
        }
        return f.mayCarry(thing) ? walk.placesFrom(f, f.stands, thing) : 0;
    }

    public int carry(int flat, int thing, int told) {
        Flat f = flatFor(flat);
        if (f == null || !f.isPlace(thing, told)) {
            return refuse(BAD);
        }
        int n = walk.stepsTo(f, f.stands, thing, told);
        if (n < 1) {
            return refuse(STUCK);
        }
        f.stand(thing, told);
        f.carriesMade++;
        f.stepsMade += n;
        return n;
    }

    public int put(int flat, int thing, int told) {
        Flat f = flatFor(flat);
        if (f == null || !f.isPlace(thing, told)) {
            return refuse(BAD);
        }
        if (!f.canStand(thing, told)) {
            return refuse(STUCK);
        }
        f.stand(thing, told);
        return 1;
    }

    public int judge(int flat, int s, int n) {
        int wrong = wrongForCarries(flat, s, n);
        if (wrong != 0) {
            return refuse(wrong);
        }
        return carriesThatCan(flatFor(flat), shelfOf(s), n, false);
    }

    public int cost(int flat, int s, int n) {
        int wrong = wrongForCarries(flat, s, n);
        if (wrong != 0) {
            return refuse(wrong);
        }
        return carriesThatCan(flatFor(flat), shelfOf(s), n, true);
    }

    // ---- DRAWINGS

    public int draw(int flat, int drawing, int thing, int told) {
        Flat f = flatWithDrawing(flat, drawing);
        if (f == null || !f.hasThing(thing) || (told != NONE && !f.isPlace(thing, told))) {
            return refuse(BAD);
        }
        f.drawings[drawing][thing] = told;
        return 1;
    }

    public int drawn(int flat, int drawing, int thing) {
        Flat f = flatWithDrawing(flat, drawing);
        if (f == null || !f.hasThing(thing)) {
            return refuse(BAD);
        }
        return f.drawnFor(drawing, thing);
    }

    public int take(int flat, int drawing) {
        Flat f = flatWithDrawing(flat, drawing);
        if (f == null) {
            return refuse(BAD);
        }
        for (int i = 0; i < f.count && i < THINGS; i++) {
            f.drawings[drawing][i] = f.stands[i];
        }
        return f.count;
    }

    public int off(int flat, int drawing) {
        Flat f = flatWithDrawing(flat, drawing);
        if (f == null) {
            return refuse(BAD);
        }
        return f.offIn(f.stands, drawing);
    }

    public int sound(int flat, int drawing) {
        Flat f = flatWithDrawing(flat, drawing);
        if (f == null) {
            return refuse(BAD);
        }
        return f.isSound(drawing) ? 1 : 0;
    }

    public int waits(int flat, int drawing, int thing) {
        Flat f = flatWithDrawing(flat, drawing);
        if (f == null || !f.hasThing(thing)) {
            return refuse(BAD);
        }
        return f.waitedFor(drawing, thing);
    }

    public int rings(int flat, int drawing) {
        Flat f = flatWithDrawing(flat, drawing);
        if (f == null) {
            return refuse(BAD);
        }
        return inRings(f, drawing);
    }

    public int bound(int flat, int drawing) {
        Flat f = flatWithDrawing(flat, drawing);
        if (f == null) {
            return refuse(BAD);
        }
        return f.offIn(f.stands, drawing) + (inRings(f, drawing) != 0 ? 1 : 0);
    }

    public int parts(int flat) {
        Flat f = flatFor(flat);
        if (f == null) {
            return refuse(BAD);
        }
        return f.partsOfFloor();
    }

    public long ever(int flat, int thing) {
        Flat f = flatFor(flat);
        if (f == null || !f.hasThing(thing)) {
            return 0;
        }
        long own = f.maskAt(thing, f.stands[thing]);
        if (!f.mayCarry(thing)) {
            return own;
        }
        for (int i = 0; i < f.count && i < THINGS; i++) {
            scratch[i] = i == thing || f.fixed[i] ? f.stands[i] : GONE;
        }
        return own | walk.coveredFrom(f, scratch, thing);
    }

    // ---- SEARCHES

    public int fewest(int flat, int drawing) {
        Flat f = flatWithDrawing(flat, drawing);
        if (f == null) {
            return refuse(BAD);
        }
        asked.run(f, drawing, NONE, LAYERS);
        return asked.outcome == SPENT ? refuse(STUCK) : asked.fewestFound();
    }

    public int least(int flat, int drawing) {
        Flat f = flatWithDrawing(flat, drawing);
        if (f == null) {
            return refuse(BAD);
        }
        asked.run(f, drawing, NONE, LAYERS);
        return asked.outcome == SPENT ? refuse(STUCK) : asked.leastSteps;
    }

    public int first(int flat, int drawing) {
        Flat f = flatWithDrawing(flat, drawing);
        if (f == null) {
            return refuse(BAD);
        }
        asked.run(f, drawing, NONE, LAYERS);
        return asked.outcome == SPENT ? refuse(STUCK) : asked.firstCarry;
    }

    public int states(int flat, int drawing) {
        Flat f = flatWithDrawing(flat, drawing);
        if (f == null) {
            return refuse(BAD);
        }
        asked.run(f, drawing, NONE, LAYERS);
        return asked.outcome == SPENT ? refuse(STUCK) : asked.count;
    }

    public int either(int flat) {
        Flat f = flatFor(flat);
        if (f == null) {
            return refuse(BAD);
        }
        int best = NONE;
        int bestFewest = 0;
        int bestLeast = 0;
        for (int d = 0; d < DRAWINGS; d++) {
            if (!f.tellsAnything(d)) {
                continue;
            }
            asked.run(f, d, NONE, LAYERS);
            if (asked.outcome == SPENT) {
                return refuse(STUCK);
            }
            if (asked.outcome == FOUND && (best == NONE || asked.layer < bestFewest
                    || (asked.layer == bestFewest && asked.leastSteps < bestLeast))) {
                best = d;
                bestFewest = asked.layer;
                bestLeast = asked.leastSteps;
            }
        }
        return best;
    }

    public int shelf(int flat, int drawing) {
        Flat f = flatWithDrawing(flat, drawing);
        if (f == null) {
            return refuse(BAD);
        }
        if (f.count == 0) {
            return refuse(STUCK);
        }
        int best = NONE;
        int bestFewest = 0;
        for (int i = 0; i < f.count && i < THINGS; i++) {
            asked.run(f, drawing, i, LAYERS);
            if (asked.outcome == SPENT) {
                return refuse(STUCK);
            }
            if (asked.outcome == FOUND && (best == NONE || asked.layer < bestFewest)) {
                best = i;
                bestFewest = asked.layer;
            }
        }
        return best;
    }

    public int near(int flat, int drawing, int k) {
        Flat f = flatWithDrawing(flat, drawing);
        if (f == null || k < 0 || k > 3) {
            return refuse(BAD);
        }
        asked.run(f, drawing, NONE, k);
        return asked.outcome == SPENT ? refuse(STUCK) : asked.nearest(f);
    }

    public int more(int flat, int drawing) {
        Flat f = flatWithDrawing(flat, drawing);
        if (f == null) {
            return refuse(BAD);
        }
        asked.run(f, drawing, NONE, LAYERS);
        if (asked.outcome == SPENT) {
            return refuse(STUCK);
        }
        int now = asked.fewestFound();
        long floorNow = f.floor;
        for (int c = 0; c < CELLS && f.hasCell(c); c++) {
            if ((floorNow >>> c & 1L) != 0) {
                continue;
            }
            f.floor = floorNow | 1L << c;
            asked.run(f, drawing, NONE, LAYERS);
            f.floor = floorNow;
            if (asked.outcome == SPENT) {
                return refuse(STUCK);
            }
            if (asked.outcome == FOUND && (now == NONE || asked.layer < now)) {
                return c;
            }
        }
        return NONE;
    }

    public int begin(int flat, int drawing) {
        Flat f = flatWithDrawing(flat, drawing);
        if (f == null) {
            return refuse(BAD);
        }
        begun.become(f);
        underWay.open(begun, drawing, NONE);
        underWay.flatNumber = flat;
        searching = true;
        return underWay.outcome == FOUND ? 1 : 0;
    }

    public int step() {
        if (!searching || underWay.outcome != GOING) {
            return refuse(STUCK);
        }
        return underWay.deepen(begun);
    }

    public int search(int what) {
        if (what < 0 || what > 5) {
            return refuse(BAD);
        }
        if (!searching) {
            return refuse(STUCK);
        }
        switch (what) {
            case 0: return underWay.flatNumber;
            case 1: return underWay.drawing;
            case 2: return underWay.layer;
            case 3: return underWay.count;
            case 4: return underWay.outcome;
            default: return underWay.leastSteps;
        }
    }

    // ---- what is kept

    public int image() {
        for (int i = 0; i < FLATS; i++) {
            kept[i].become(flats[i]);
        }
        keptCount = flatCount;
        return 1;
    }

    public int back() {
        if (keptCount == NONE) {
            return refuse(STUCK);
        }
        for (int i = 0; i < FLATS; i++) {
            flats[i].become(kept[i]);
        }
        flatCount = keptCount;
        searching = false;
        return 1;
    }

    public int status(int what) {
        if (what == 0) {
            return flatCount;
        }
        if (what == 1) {
            return tape.size;
        }
        if (what == 2) {
            return shelvesThatHold();
        }
        int refusal = what - 12;
        return refusal >= 0 && refusal < refusals.length ? refusals[refusal] : NONE;
    }

    // ---- helpers of the calls

    private int refuse(int which) {
        int i = BAD - which;
        if (i >= 0 && i < refusals.length) {
            refusals[i]++;
        }
        return which;
    }

    private Shelf shelfOf(int s) {
        return s >= 0 && s < SHELVES ? shelves[s] : null;
    }

    private Flat flatFor(int flat) {
        return flat >= 0 && flat < flatCount && flat < FLATS ? flats[flat] : null;
    }

    private Flat flatWithDrawing(int flat, int drawing) {
        return drawing >= 0 && drawing < DRAWINGS ? flatFor(flat) : null;
    }

    private int shelvesThatHold() {
        int n = 0;
        for (int i = 0; i < SHELVES; i++) {
            if (shelves[i].holds != NONE) {
                n++;
            }
        }
        return n;
    }

    private static boolean canBeTold(int kind, int told) {
        switch (kind) {
            case SLIDE: return told >= 0 && told <= 3;
            case CARRY: return told == LANDING || (told >= 0 && told < SPOTS);
            case IN: return told >= 0 && told < SPOTS;
            default: return true;
        }
    }

    private int wrongForMoveIn(int flat, int s) {
        Shelf shelf = shelfOf(s);
        if (flatFor(flat) == null || shelf == null) {
            return BAD;
        }
        return shelf.wrongForMove();
    }

    private int wrongForCarries(int flat, int s, int n) {
        Shelf shelf = shelfOf(s);
        if (flatFor(flat) == null || shelf == null || n < 0 || n > MOST_CARRIES) {
            return BAD;
        }
        int wrong = shelf.wrongForRow();
        if (wrong != 0) {
            return wrong;
        }
        return shelf.size < n ? BAD : 0;
    }

    /** Where the MOVE's THING would stand then; NONE: nowhere. Whether a CARRY's way is free is not asked here. */
    private static int placeOfMove(Flat f, Shelf move) {
        if (f == null || move == null || !f.hasThing(move.thing)) {
            return NONE;
        }
        int stands = f.stands[move.thing];
        switch (move.holds - MOVES) {
            case SLIDE: return f.beside(stands, move.told);
            case TURN: return stands == LANDING || f.plain[move.thing] ? NONE : stands ^ 1;
            case CARRY: return move.told;
            case OUT: return f.isAtDoor(move.thing, stands) ? LANDING : NONE;
            case IN: return stands == LANDING && f.mayComeIn(move.thing, move.told) ? move.told : NONE;
            default: return NONE;
        }
    }

    private int stepsOfMove(Flat f, Shelf move) {
        int place = placeOfMove(f, move);
        if (place == NONE || f == null || move == null || !f.mayCarry(move.thing)) {
            return 0;
        }
        if (move.holds == MOVES + CARRY) {
            return Math.max(0, walk.stepsTo(f, f.stands, move.thing, place));
        }
        return f.canStand(move.thing, place) ? 1 : 0;
    }

    /** The place in the ROW of the first CARRY that can't be (NONE: all can), or the STEPS of those ahead of it. */
    private int carriesThatCan(Flat f, Shelf row, int n, boolean steps) {
        if (f == null || row == null) {
            return NONE;
        }
        System.arraycopy(f.stands, 0, scratch, 0, THINGS);
        int sum = 0;
        for (int i = 0; i < n; i++) {
            long told = row.told(i);
            int one = told < 0 || told >= 1000L * THINGS ? NONE
                    : walk.stepsTo(f, scratch, (int) told / 1000, (int) told % 1000);
            if (one < 1) {
                return steps ? sum : i;
            }
            sum += one;
            scratch[(int) told / 1000] = (int) told % 1000;
        }
        return steps ? sum : NONE;
    }

    /** Who waits for whom, and for whom those wait, until nothing new comes: as often as there are THINGS. */
    private int inRings(Flat f, int drawing) {
        for (int i = 0; i < f.count && i < THINGS; i++) {
            scratch[i] = f.waitedFor(drawing, i);
        }
        for (int via = 0; via < f.count && via < THINGS; via++) {
            for (int i = 0; i < f.count && i < THINGS; i++) {
                if ((scratch[i] >> via & 1) != 0) {
                    scratch[i] |= scratch[via];
                }
            }
        }
        int ring = 0;
        for (int i = 0; i < f.count && i < THINGS; i++) {
            ring |= scratch[i] & 1 << i;
        }
        return ring;
    }

    // ---- the classes inside

    /** A ROW, a MOVE, or NOTHING. */
    private static final class Shelf {
        /** NONE, a ROW's SORT, or 10 and a MOVE's KIND. */
        int holds = NONE;
        int size = 0;
        final long[] elements = new long[ELEMENTS];
        int thing = 0;
        int told = 0;

        void holdRow(int sort, int n) {
            holds = sort;
            size = n;
            Arrays.fill(elements, 0L);
        }

        void holdMove(int kind, int ofThing, int toldSo) {
            holds = MOVES + kind;
            thing = ofThing;
            told = toldSo;
        }

        boolean isMove() {
            return holds >= MOVES;
        }

        int wrongForRow() {
            if (isMove()) {
                return OTHER;
            }
            return holds == NONE ? NOTHING : 0;
        }

        int wrongForMove() {
            if (isMove()) {
                return 0;
            }
            return holds == NONE ? NOTHING : OTHER;
        }

        void keep(int i, long v) {
            if (i < 0 || i >= size || i >= elements.length) {
                return;
            }
            switch (holds) {
                case 0: elements[i] = (byte) v; break;
                case 1: elements[i] = (short) v; break;
                case 2: elements[i] = (int) v; break;
                case LONGS: elements[i] = v; break;
                default: elements[i] = v != 0 ? 1 : 0; break;
            }
        }

        long told(int i) {
            return i >= 0 && i < size && i < elements.length ? elements[i] : 0;
        }

        /** Whether the MOVE is of a KIND or of one under it. */
        boolean isOf(int kind) {
            int own = holds - MOVES;
            switch (kind) {
                case MOVE: return true;
                case SLIDE: return own == SLIDE || own == TURN;
                case CARRY: return own == CARRY || own == OUT || own == IN;
                default: return own == kind;
            }
        }

        int saysAs(int kind) {
            if (kind == MOVE) {
                return thing;
            }
            switch (holds - MOVES) {
                case TURN: return TURNED;
                case OUT: return LANDING;
                default: return told;
            }
        }
    }

    /** A board with its walls, THINGS and DRAWINGS, and how all STANDS. */
    private static final class Flat {
        int width = 0;
        int height = 0;
        long floor = 0;
        int count = 0;
        int hands = 2;
        int landing = 0;
        int door = 0;
        int carriesMade = 0;
        int stepsMade = 0;
        final int[] wide = new int[THINGS];
        final int[] high = new int[THINGS];
        final int[] heavy = new int[THINGS];
        final boolean[] fixed = new boolean[THINGS];
        final boolean[] plain = new boolean[THINGS];
        /** How it was told on THE TAPE (0, or 1 if turned): a plain THING comes IN only so. */
        final int[] turnedAtFirst = new int[THINGS];
        final int[] stands = new int[THINGS];
        final int[][] drawings = new int[DRAWINGS][THINGS];

        void clear(int w, int h) {
            width = w;
            height = h;
            floor = board();
            count = 0;
            hands = 2;
            landing = 0;
            door = 0;
            carriesMade = 0;
            stepsMade = 0;
            for (int d = 0; d < DRAWINGS; d++) {
                Arrays.fill(drawings[d], NONE);
            }
        }

        void become(Flat other) {
            width = other.width;
            height = other.height;
            floor = other.floor;
            count = other.count;
            hands = other.hands;
            landing = other.landing;
            door = other.door;
            carriesMade = other.carriesMade;
            stepsMade = other.stepsMade;
            System.arraycopy(other.wide, 0, wide, 0, THINGS);
            System.arraycopy(other.high, 0, high, 0, THINGS);
            System.arraycopy(other.heavy, 0, heavy, 0, THINGS);
            for (int i = 0; i < THINGS; i++) {
                fixed[i] = other.fixed[i];
                plain[i] = other.plain[i];
            }
            System.arraycopy(other.turnedAtFirst, 0, turnedAtFirst, 0, THINGS);
            System.arraycopy(other.stands, 0, stands, 0, THINGS);
            for (int d = 0; d < DRAWINGS; d++) {
                System.arraycopy(other.drawings[d], 0, drawings[d], 0, THINGS);
            }
        }

        long board() {
            // 1L << 64 is 1, so a full board of 64 CELLS is told apart
            return lastCell() >= CELLS - 1 ? -1L : (1L << width * height) - 1;
        }

        int lastCell() {
            return width * height - 1;
        }

        boolean hasCell(int cell) {
            return cell >= 0 && cell < width * height;
        }

        boolean hasThing(int thing) {
            return thing >= 0 && thing < count && thing < THINGS;
        }

        /** CELLS of the columns that have at least so many others to the right of them. */
        long columnsWithRight(int others) {
            long line = width > others ? (1L << (width - others)) - 1 : 0;
            long all = 0;
            for (int y = 0; y < height; y++) {
                all |= line << (y * width);
            }
            return all;
        }

        long firstColumn() {
            return columnsWithRight(width - 1);
        }

        /** CELLS a THING would cover at a SPOT; 0: it would not be of the board, or no such SPOT or THING is. */
        long maskAt(int thing, int spot) {
            if (thing < 0 || thing >= count || thing >= THINGS || width < 1
                    || spot < 0 || spot >= SPOTS || spot >> 1 >= width * height) {
                return 0;
            }
            boolean turned = (spot & 1) == 1;
            if (turned && wide[thing] == high[thing]) {
                return 0;
            }
            int w = turned ? high[thing] : wide[thing];
            int h = turned ? wide[thing] : high[thing];
            int cell = spot >> 1;
            if (cell % width + w > width || cell / width + h > height) {
                return 0;
            }
            long line = (1L << w) - 1;
            long mask = 0;
            for (int y = 0; y < h; y++) {
                mask |= line << (cell + y * width);
            }
            return mask;
        }

        long coveredBut(int[] places, int thing) {
            long mask = 0;
            for (int i = 0; i < count && i < places.length; i++) {
                if (i != thing) {
                    mask |= maskAt(i, places[i]);
                }
            }
            return mask;
        }

        int landedBut(int[] places, int thing) {
            int n = 0;
            for (int i = 0; i < count && i < places.length; i++) {
                if (i != thing && places[i] == LANDING) {
                    n++;
                }
            }
            return n;
        }

        boolean isPlace(int thing, int told) {
            return hasThing(thing) && (told == LANDING || maskAt(thing, told) != 0);
        }

        boolean canStand(int thing, int told) {
            if (told == LANDING) {
                return landedBut(stands, thing) < landing;
            }
            long mask = maskAt(thing, told);
            return mask != 0 && (mask & ~floor) == 0 && (mask & coveredBut(stands, thing)) == 0;
        }

        void stand(int thing, int told) {
            if (hasThing(thing)) {
                stands[thing] = told;
            }
        }

        boolean mayCarry(int thing) {
            return hasThing(thing) && !fixed[thing] && heavy[thing] <= hands;
        }

        boolean isAtDoor(int thing, int spot) {
            return (maskAt(thing, spot) >>> door & 1L) != 0;
        }

        boolean mayComeIn(int thing, int spot) {
            return isAtDoor(thing, spot) && (!plain[thing] || (spot & 1) == turnedAtFirst[thing]);
        }

        /** The SPOT one CELL on from another (0 north, 1 east, 2 south, 3 west); NONE: the board ends there. */
        int beside(int spot, int direction) {
            int cell = spot >> 1;
            if (spot < 0 || !hasCell(cell) || width < 1) {
                return NONE;
            }
            int x = cell % width;
            switch (direction) {
                case 0: return cell >= width ? spot - 2 * width : NONE;
                case 1: return x + 1 < width ? spot + 2 : NONE;
                case 2: return cell + width < width * height ? spot + 2 * width : NONE;
                case 3: return x > 0 ? spot - 2 : NONE;
                default: return NONE;
            }
        }

        int thingAt(int cell) {
            for (int i = 0; i < count && i < THINGS; i++) {
                if ((maskAt(i, stands[i]) >>> cell & 1L) != 0) {
                    return i;
                }
            }
            return NONE;
        }

        boolean canAlter(int what, int v) {
            switch (what) {
                case 0: return v >= 1 && v <= 3;
                case 1: return v >= 0 && v <= 3;
                case 2: return hasCell(v);
                default: return false;
            }
        }

        int alterTo(int what, int v) {
            int was = what == 0 ? hands : what == 1 ? landing : door;
            switch (what) {
                case 0: hands = v; break;
                case 1: landing = v; break;
                default: door = v; break;
            }
            return was;
        }

        int drawnFor(int drawing, int thing) {
            return drawing >= 0 && drawing < DRAWINGS && hasThing(thing) ? drawings[drawing][thing] : NONE;
        }

        boolean tellsAnything(int drawing) {
            for (int i = 0; i < count && i < THINGS; i++) {
                if (drawnFor(drawing, i) != NONE) {
                    return true;
                }
            }
            return false;
        }

        /** How many aren't as drawn; one that is GONE has nothing drawn of it. */
        int offIn(int[] places, int drawing) {
            int n = 0;
            for (int i = 0; i < count && i < places.length; i++) {
                int drawn = drawnFor(drawing, i);
                if (drawn != NONE && places[i] != GONE && drawn != places[i]) {
                    n++;
                }
            }
            return n;
        }

        boolean isSound(int drawing) {
            long taken = 0;
            int landed = 0;
            for (int i = 0; i < count && i < THINGS; i++) {
                int drawn = drawnFor(drawing, i);
                if (drawn == NONE) {
                    continue;
                }
                long mask = maskAt(i, drawn);
                if ((mask & ~floor) != 0 || (mask & taken) != 0) {
                    return false;
                }
                taken |= mask;
                landed += drawn == LANDING ? 1 : 0;
            }
            return landed <= landing;
        }

        int waitedFor(int drawing, int thing) {
            int drawn = drawnFor(drawing, thing);
            if (drawn == NONE || drawn == stands[thing]) {
                return 0;
            }
            long wanted = maskAt(thing, drawn);
            int waited = 0;
            for (int i = 0; i < count && i < THINGS; i++) {
                if (i != thing && drawnFor(drawing, i) != stands[i] && (maskAt(i, stands[i]) & wanted) != 0) {
                    waited |= 1 << i;
                }
            }
            return waited;
        }

        int partsOfFloor() {
            long rest = floor;
            for (int i = 0; i < count && i < THINGS; i++) {
                if (fixed[i]) {
                    rest &= ~maskAt(i, stands[i]);
                }
            }
            int n = 0;
            for (int c = 0; c < CELLS; c++) {
                if ((rest >>> c & 1L) != 0) {
                    n++;
                    rest &= ~hangingTogether(1L << c, rest);
                }
            }
            return n;
        }

        private long hangingTogether(long start, long within) {
            long notLast = columnsWithRight(1);
            long notFirst = ~firstColumn();
            long part = start;
            for (int i = 0; i < CELLS; i++) {
                part |= within & ((part & notLast) << 1 | (part & notFirst) >>> 1 | part << width | part >>> width);
            }
            return part;
        }
    }

    /** The STEPS of one THING, all else standing: told CELLS as bits, those not turned and those turned apart. */
    private static final class Walk {
        private int width;
        private long notFirst;
        private long notLast;
        private long legal;
        private long legalTurned;
        private long doors;
        private long doorsTurned;
        private long comeIn;
        private long comeInTurned;
        private boolean mayTurn;
        private boolean room;
        private long seen;
        private long seenTurned;
        private boolean seenLanding;
        /** What the last STEP came to for the first time. */
        long fresh;
        long freshTurned;
        boolean freshLanding;

        void start(Flat f, int[] places, int thing) {
            if (!f.hasThing(thing) || thing >= places.length) {
                return;
            }
            width = f.width;
            notFirst = ~f.firstColumn();
            notLast = f.columnsWithRight(1);
            long free = f.floor & ~f.coveredBut(places, thing);
            boolean square = f.wide[thing] == f.high[thing];
            legal = legalFor(f, free, f.wide[thing], f.high[thing]);
            legalTurned = square ? 0 : legalFor(f, free, f.high[thing], f.wide[thing]);
            doors = doorsFor(f, f.wide[thing], f.high[thing]);
            doorsTurned = square ? 0 : doorsFor(f, f.high[thing], f.wide[thing]);
            mayTurn = !square && !f.plain[thing];
            comeIn = f.plain[thing] && f.turnedAtFirst[thing] == 1 ? 0 : doors;
            comeInTurned = f.plain[thing] && f.turnedAtFirst[thing] == 0 ? 0 : doorsTurned;
            room = f.landedBut(places, thing) < f.landing;
            int stands = places[thing];
            freshLanding = stands == LANDING;
            boolean onBoard = stands >= 0 && stands < SPOTS;
            fresh = onBoard && (stands & 1) == 0 ? 1L << (stands >> 1) : 0;
            freshTurned = onBoard && (stands & 1) == 1 ? 1L << (stands >> 1) : 0;
            seen = fresh;
            seenTurned = freshTurned;
            seenLanding = freshLanding;
        }

        /** CELLS at which w times h free ones begin. */
        private static long legalFor(Flat f, long free, int w, int h) {
            long inRow = free;
            for (int x = 1; x < w; x++) {
                inRow &= free >>> x;
            }
            inRow &= f.columnsWithRight(w - 1);
            long all = inRow;
            for (int y = 1; y < h; y++) {
                all &= inRow >>> (y * f.width);
            }
            return all;
        }

        /** CELLS of the board at which something w times h covers the DOOR, whether it fits there or not. */
        private static long doorsFor(Flat f, int w, int h) {
            if (f.width < 1) {
                return 0;
            }
            int column = f.door % f.width;
            int line = f.door / f.width;
            long all = 0;
            for (int y = 0; y < h && y <= line; y++) {
                for (int x = 0; x < w && x <= column; x++) {
                    all |= 1L << (f.door - y * f.width - x);
                }
            }
            return all;
        }

        /** One STEP more from what was fresh; whether it came to anything new. */
        boolean goOn() {
            long next = beside(fresh) | (mayTurn ? freshTurned : 0) | (freshLanding ? comeIn : 0);
            long nextTurned = beside(freshTurned) | (mayTurn ? fresh : 0) | (freshLanding ? comeInTurned : 0);
            freshLanding = room && !seenLanding && ((fresh & doors) | (freshTurned & doorsTurned)) != 0;
            fresh = next & legal & ~seen;
            freshTurned = nextTurned & legalTurned & ~seenTurned;
            seen |= fresh;
            seenTurned |= freshTurned;
            seenLanding |= freshLanding;
            return freshLanding || (fresh | freshTurned) != 0;
        }

        private long beside(long cells) {
            return (cells & notLast) << 1 | (cells & notFirst) >>> 1 | cells << width | cells >>> width;
        }

        private boolean isFresh(int told) {
            if (told == LANDING) {
                return freshLanding;
            }
            long cells = (told & 1) == 0 ? fresh : freshTurned;
            return told >= 0 && told < SPOTS && (cells >>> (told >> 1) & 1L) != 0;
        }

        /** The fewest STEPS of a CARRY to a place; 0: the THING STANDS so; NONE: none can be. */
        int stepsTo(Flat f, int[] places, int thing, int told) {
            if (!f.hasThing(thing) || thing >= places.length || !f.isPlace(thing, told)) {
                return NONE;
            }
            if (places[thing] == told) {
                return 0;
            }
            if (!f.mayCarry(thing)) {
                return NONE;
            }
            start(f, places, thing);
            for (int n = 1; n <= MOST_STEPS && goOn(); n++) {
                if (isFresh(told)) {
                    return n;
                }
            }
            return NONE;
        }

        int placesFrom(Flat f, int[] places, int thing) {
            start(f, places, thing);
            int n = 0;
            for (int i = 1; i <= MOST_STEPS && goOn(); i++) {
                n += Long.bitCount(fresh) + Long.bitCount(freshTurned) + (freshLanding ? 1 : 0);
            }
            return n;
        }

        long coveredFrom(Flat f, int[] places, int thing) {
            start(f, places, thing);
            int steps = 0;
            while (steps < MOST_STEPS && goOn()) {
                steps++;
            }
            long all = 0;
            for (int c = 0; c < CELLS; c++) {
                all |= (seen >>> c & 1L) != 0 ? f.maskAt(thing, 2 * c) : 0;
                all |= (seenTurned >>> c & 1L) != 0 ? f.maskAt(thing, 2 * c + 1) : 0;
            }
            return all;
        }
    }

    /** Layers of STATES, from how all STANDS on; a STATE has eight bits for each THING. */
    private static final class Search {
        int flatNumber = NONE;
        int drawing = 0;
        int layer = 0;
        int count = 0;
        int outcome = ENDED;
        int leastSteps = NONE;
        int firstCarry = NONE;
        private int layerStart = 0;
        private int things = 0;
        private final long[] states = new long[MOST_STATES];
        /** Of the rows of CARRIES that come to a STATE: the fewest STEPS, and the least first CARRY of those. */
        private final int[] costs = new int[MOST_STATES];
        private final int[] firsts = new int[MOST_STATES];
        /** By a STATE's mixed bits: 1 and its number; 0: free. */
        private final int[] table = new int[SLOTS];
        private final int[] places = new int[THINGS];
        private final Walk walk = new Walk();

        /** Layer 0; a THING that is to be gone is put where nothing is covered and no CARRY begins. */
        void open(Flat f, int ofDrawing, int gone) {
            drawing = ofDrawing;
            layer = 0;
            layerStart = 0;
            things = f.count;
            outcome = GOING;
            leastSteps = NONE;
            firstCarry = NONE;
            Arrays.fill(table, 0);
            long state = 0;
            for (int i = 0; i < things && i < THINGS; i++) {
                state = with(state, i, i == gone ? GONE : f.stands[i]);
            }
            states[0] = state;
            costs[0] = 0;
            firsts[0] = NONE;
            count = 1;
            int slot = slotOf(state);
            if (slot != NONE) {
                table[slot] = 1;
            }
            lookAtLayer(f);
        }

        void run(Flat f, int ofDrawing, int gone, int layers) {
            open(f, ofDrawing, gone);
            for (int i = 0; i < layers && outcome == GOING; i++) {
                deepen(f);
            }
        }

        /** One layer more: how many STATES it has, 1001 if it is SPENT by that. */
        int deepen(Flat f) {
            int from = layerStart;
            int to = count;
            layerStart = count;
            layer++;
            for (int i = from; i < to && count <= MOST_STATES; i++) {
                carryFrom(f, i);
            }
            if (count > MOST_STATES) {
                outcome = SPENT;
                return count;
            }
            lookAtLayer(f);
            return count - layerStart;
        }

        int fewestFound() {
            return outcome == FOUND ? layer : NONE;
        }

        int nearest(Flat f) {
            int best = THINGS;
            for (int i = 0; i < count && i < MOST_STATES; i++) {
                spread(states[i]);
                best = Math.min(best, f.offIn(places, drawing));
            }
            return best;
        }

        private void lookAtLayer(Flat f) {
            for (int i = layerStart; i < count && i < MOST_STATES; i++) {
                spread(states[i]);
                if (f.offIn(places, drawing) == 0
                        && (outcome != FOUND || isBetter(costs[i], firsts[i], leastSteps, firstCarry))) {
                    outcome = FOUND;
                    leastSteps = costs[i];
                    firstCarry = firsts[i];
                }
            }
            if (outcome == GOING && (count == layerStart || layer >= LAYERS)) {
                outcome = ENDED;
            }
        }

        private void carryFrom(Flat f, int state) {
            if (state < 0 || state >= MOST_STATES) {
                return;
            }
            spread(states[state]);
            for (int i = 0; i < things && i < THINGS; i++) {
                if (places[i] == GONE || !f.mayCarry(i)) {
                    continue;
                }
                walk.start(f, places, i);
                for (int n = 1; n <= MOST_STEPS && count <= MOST_STATES && walk.goOn(); n++) {
                    meetAll(state, i, walk.fresh, 0, n);
                    meetAll(state, i, walk.freshTurned, 1, n);
                    if (walk.freshLanding) {
                        meet(state, i, LANDING, n);
                    }
                }
            }
        }

        private void meetAll(int state, int thing, long cells, int turned, int steps) {
            long rest = cells;
            for (int n = 0; n < CELLS && rest != 0; n++) {
                meet(state, thing, 2 * Long.numberOfTrailingZeros(rest) + turned, steps);
                rest &= rest - 1;
            }
        }

        /** A CARRY from a STATE of the layer ahead comes to another STATE: a new one, perhaps, or in a better way. */
        private void meet(int from, int thing, int told, int steps) {
            if (from < 0 || from >= MOST_STATES || count > MOST_STATES) {
                return;
            }
            long state = with(states[from], thing, told);
            int slot = slotOf(state);
            if (slot == NONE) {
                return;
            }
            int cost = costs[from] + steps;
            int first = layer == 1 ? 1000 * thing + told : firsts[from];
            int held = table[slot] - 1;
            if (held < 0) {
                addState(slot, state, cost, first);
            } else if (held >= layerStart && held < MOST_STATES
                    && isBetter(cost, first, costs[held], firsts[held])) {
                costs[held] = cost;
                firsts[held] = first;
            }
        }

        private void addState(int slot, long state, int cost, int first) {
            if (count >= 0 && count < MOST_STATES && slot >= 0 && slot < SLOTS) {
                states[count] = state;
                costs[count] = cost;
                firsts[count] = first;
                table[slot] = count + 1;
            }
            // one more than there is room for is only counted: the SEARCH is SPENT by it
            count++;
        }

        private static boolean isBetter(int cost, int first, int thanCost, int thanFirst) {
            return cost < thanCost || (cost == thanCost && first < thanFirst);
        }

        /** The slot that has a STATE, or the free one where it belongs. */
        private int slotOf(long state) {
            int slot = (int) (state * 0x9E3779B97F4A7C15L >>> 53);
            for (int n = 0; n < SLOTS; n++) {
                int at = (slot + n) & (SLOTS - 1);
                int held = table[at] - 1;
                if (held < 0 || (held < MOST_STATES && states[held] == state)) {
                    return at;
                }
            }
            return NONE;
        }

        private static long with(long state, int thing, int told) {
            return state & ~(255L << (8 * thing)) | (long) told << (8 * thing);
        }

        private void spread(long state) {
            for (int i = 0; i < THINGS; i++) {
                places[i] = (int) (state >>> (8 * i)) & 255;
            }
        }
    }

    /** THE TAPE, and how it is read. */
    private static final class Tape {
        private static final int END = 0;
        private static final int WORD = 1;
        private static final int NUMBER = 2;
        private static final int SIGN = 3;
        private static final int STRANGE = 4;

        int size = 0;
        private final byte[] bytes = new byte[TAPE];
        /** The TOKEN that is looked at: what it is, where it begins, and where it ends. */
        private int token = END;
        private int start = 0;
        private int end = 0;
        private int fault = NONE;

        void add(byte b) {
            if (size >= 0 && size < TAPE) {
                bytes[size] = b;
                size++;
            }
        }

        /** The FLAT becomes what THE TAPE tells: NONE, or the FAULT (what the FLAT is then is free). */
        int readInto(Flat f) {
            fault = NONE;
            end = 0;
            advance();
            readBoard(f);
            for (int i = 0; i < TAPE && fault == NONE && token == SIGN; i++) {
                advance();
                readStatement(f);
            }
            if (token != END) {
                fail(start);
            }
            return fault;
        }

        private void readBoard(Flat f) {
            expect("board");
            int w = number(2, 8);
            expect("by");
            int h = number(2, 8);
            if (fault == NONE) {
                f.clear(w, h);
            }
        }

        private void readStatement(Flat f) {
            if (accept("wall")) {
                readWall(f);
            } else if (f.count < THINGS && accept("thing")) {
                readThing(f);
            } else if (accept("hands")) {
                f.hands = number(1, 3);
            } else if (accept("landing")) {
                f.landing = number(0, 3);
                expect("door");
                f.door = number(0, f.lastCell());
            } else {
                fail(start);
            }
        }

        private void readWall(Flat f) {
            int place = start;
            int cell = number(0, f.lastCell());
            if (fault == NONE && f.thingAt(cell) != NONE) {
                fail(place);
            }
            if (fault == NONE) {
                f.floor &= ~(1L << cell);
            }
        }

        private void readThing(Flat f) {
            int i = f.count;
            if (i < 0 || i >= THINGS) {
                return;
            }
            f.wide[i] = number(1, 3);
            expect("by");
            f.high[i] = number(1, 3);
            expect("at");
            int place = start;
            int cell = number(0, f.lastCell());
            f.turnedAtFirst[i] = accept("turned") ? 1 : 0;
            f.stands[i] = 2 * cell + f.turnedAtFirst[i];
            if (fault == NONE) {
                f.count++;
                // asked ahead of the rest of the STATEMENT: the NUMBER behind at is the earlier FAULT
                if (!f.canStand(i, f.stands[i])) {
                    fail(place);
                }
            }
            f.heavy[i] = accept("heavy") ? number(1, 3) : 1;
            f.fixed[i] = accept("fixed");
            f.plain[i] = accept("plain");
        }

        /** Only the first FAULT counts. */
        private void fail(int place) {
            if (fault == NONE) {
                fault = place;
            }
        }

        private void expect(String word) {
            if (!accept(word)) {
                fail(start);
            }
        }

        private boolean accept(String word) {
            if (fault != NONE || token != WORD || end - start != word.length()) {
                return false;
            }
            for (int i = 0; i < word.length(); i++) {
                if (byteAt(start + i) != word.charAt(i)) {
                    return false;
                }
            }
            advance();
            return true;
        }

        private int number(int from, int to) {
            if (fault != NONE) {
                return from;
            }
            int value = 0;
            for (int i = start; i < end && i < TAPE; i++) {
                value = Math.min(1000, 10 * value + byteAt(i) - '0');
            }
            if (token != NUMBER || end - start > 2 || value < from || value > to) {
                fail(start);
                return from;
            }
            advance();
            return value;
        }

        /** The TOKEN behind this one, as long as can be; at THE TAPE's end it begins at its size. */
        private void advance() {
            start = end;
            for (int i = 0; i < TAPE && start < size && byteAt(start) == ' '; i++) {
                start++;
            }
            token = kindAt(start);
            end = start;
            if (token == WORD || token == NUMBER) {
                for (int i = 0; i < TAPE && kindAt(end) == token; i++) {
                    end++;
                }
            } else if (token != END) {
                end++;
            }
        }

        private int kindAt(int place) {
            if (place < 0 || place >= size || place >= TAPE) {
                return END;
            }
            int b = bytes[place];
            if (b >= 'a' && b <= 'z') {
                return WORD;
            }
            if (b >= '0' && b <= '9') {
                return NUMBER;
            }
            return b == ';' ? SIGN : STRANGE;
        }

        private int byteAt(int place) {
            return place >= 0 && place < size && place < TAPE ? bytes[place] & 255 : 0;
        }
    }
}
