/** Each sentence of promises 1 to 50 that names a boundary has a test of its own here, and so has each REFUSAL. */
public final class PromiseBoundaries {
  static final int NONE = -1, BAD = -2, OTHER = -3, NOTHING = -4, STUCK = -5, FULL = -6;
  /** More than 1,000 STATES in two layers, if two of them are drawn elsewhere. */
  static final String SIX = "board 8 by 8;thing 1 by 1 at 0;thing 1 by 1 at 1;thing 1 by 1 at 2;thing 1 by 1 at 3;"
      + "thing 1 by 1 at 4;thing 1 by 1 at 5";
  // 0 . .
  // 1 # .
  // . . 2
  static final String BEND = "board 3 by 3;thing 1 by 1 at 0;thing 1 by 1 at 3;thing 1 by 1 at 8;wall 4";

  static void promise(int n, String words) {
    Sentences.promise(n);
    Sentences.sentence(words);
  }

  static void sentence(String words) { Sentences.sentence(words); }
  static void due(String what, long got, long want) { Sentences.due(what, got, want); }
  static TheOtherRoom with(String... texts) { return Sentences.with(texts); }
  static TheOtherRoom room() { return Sentences.room(); }

  static void refused(int which, String what, Sentences.Call c) {
    Sentences.refused(PromiseBoundaries::room, which, what, c);
  }

  static void ahead(int first, int second, String what, Sentences.Call c) {
    Sentences.ahead(PromiseBoundaries::room, first, second, what, c);
  }

  static void quiet(String what, long answer, Sentences.Call c) {
    Sentences.quiet(PromiseBoundaries::room, what, answer, c);
  }

  static void edges(String what, int from, int to, Sentences.OfNumber c) {
    Sentences.edges(PromiseBoundaries::room, what, from, to, c);
  }

  static void quietEdges(String what, int from, int to, long answer, Sentences.OfNumber c) {
    Sentences.quietEdges(PromiseBoundaries::room, what, from, to, answer, c);
  }

  /** FLATS 0 and 1 are there. */
  static void flatEdges(Sentences.OfNumber c) { edges("FLAT", 0, 1, c); }

  /** Of FLAT 0, as FLAT 1 has no THINGS. */
  static void flatEdgesOfOne(Sentences.OfNumber c) { edges("FLAT", 0, 0, c); }

  /** FLATS 0 and 1 are there, each with DRAWINGS 0 to 3. */
  interface OfDrawing { long on(TheOtherRoom x, int flat, int drawing); }

  static void drawingEdges(OfDrawing c) {
    flatEdges((x, f) -> c.on(x, f, 0));
    edges("DRAWING", 0, 3, (x, d) -> c.on(x, 0, d));
  }

  /** An object with a DRAWING 0 of FLAT 0 for which a SEARCH is SPENT by layer 2. */
  static TheOtherRoom spent() {
    TheOtherRoom x = new TheOtherRoom();
    Sentences.flat(x, SIX);
    x.draw(0, 0, 0, 126);
    x.draw(0, 0, 1, 124);
    x.draw(0, 1, 2, 126);
    x.carry(0, 5, 112);
    x.image();
    return x;
  }

  static TheOtherRoom full() {
    TheOtherRoom x = new TheOtherRoom();
    for (int i = 0; i < 3; i++) Sentences.flat(x, "board 2 by " + (2 + i));
    x.image();
    Sentences.flat(x, "board 4 by 3;thing 2 by 1 at 0");
    Sentences.feed(x, "board 5 by 2;wall");
    return x;
  }

  // ---- SHELVES

  static void p1() {
    promise(1, "No FLATS; SHELVES hold NOTHING; THE TAPE is empty.");
    TheOtherRoom x = new TheOtherRoom();
    for (int i = 0; i <= 2; i++) due("status(" + i + ")", x.status(i), 0);
    for (int i = 12; i <= 16; i++) due("status(" + i + ")", x.status(i), 0);
    for (int s = 0; s < 8; s++) due("SHELF " + s, x.holds(s), NONE);
    due("no FLAT 0", x.flatOf(0, 0), BAD);
    due("nothing was kept", x.back(), STUCK);
    due("no SEARCH", x.step() + x.search(0), 2 * STUCK);
    due("nothing on THE TAPE", x.wipe(), 0);
    due("it ends too early at 0", x.flat(), -20);
  }

  static void p2() {
    promise(2, "SHELF s holds a new ROW: 1. BAD.");
    edges("SHELF", 0, 7, (x, s) -> x.row(s, 2, 3));
    edges("SORT", 0, 4, (x, sort) -> x.row(0, sort, 3));
    edges("elements", 0, 40, (x, n) -> x.row(0, 2, n));
    refused(BAD, "all", x -> x.row(-1, 5, 41));
    TheOtherRoom x = room();
    due("over a ROW", x.row(0, 2, 2), 1);
    due("new ones", x.element(0, 0) | x.element(0, 1), 0);
    due("fewer", Sentences.size(x, 0), 2);
    due("of none", x.row(0, 0, 0) * 100 + Sentences.size(x, 0), 100);
    due("of 40", x.row(0, 0, 40) * 100 + Sentences.size(x, 0), 140);
    due("over a MOVE", x.row(2, 3, 1) * 10 + x.holds(2), 13);
    due("over NOTHING", x.row(7, 4, 1) * 10 + x.holds(7), 14);
    due("SHELVES", x.status(2), 5);
  }

  static void p3() {
    promise(3, "BAD SHELF; OTHER; NOTHING; BAD i.");
    edges("SHELF", 0, 7, (x, s) -> x.set(s, 0, 5));
    edges("element of 3", 0, 2, (x, i) -> x.set(0, i, 5));
    edges("element of 2", 0, 1, (x, i) -> x.set(1, i, 5));
    Sentences.edges(() -> { TheOtherRoom x = room(); x.row(0, 3, 40); return x; }, "element of 40", 0, 39,
        (x, i) -> x.set(0, i, 5));
    Sentences.refused(() -> { TheOtherRoom x = room(); x.row(0, 3, 0); return x; }, BAD, "element of none",
        x -> x.set(0, 0, 5));
    refused(OTHER, "a SLIDE", x -> x.set(2, 0, 5));
    refused(OTHER, "a CARRY", x -> x.set(3, 0, 5));
    refused(NOTHING, "nothing", x -> x.set(7, 0, 5));
    ahead(OTHER, BAD, "a MOVE has no element -1", x -> x.set(2, -1, 5));
    ahead(NOTHING, BAD, "NOTHING has no element 99", x -> x.set(7, 99, 5));
    ahead(BAD, BAD, "SHELF and element", x -> x.set(8, 99, 5));
  }

  static void p4() {
    promise(4, "BAD SHELVES; OTHER (also ROWS of two SORTS, if both hold something); NOTHING; BAD the others.");
    edges("SHELF p", 0, 7, (x, p) -> x.copy(p, 0, 0, 0, 0));
    edges("SHELF q", 0, 7, (x, q) -> x.copy(0, q, 0, 0, 0));
    edges("place i, of none", 0, 3, (x, i) -> x.copy(0, 0, i, 0, 0));
    edges("place j, of none", 0, 3, (x, j) -> x.copy(0, 0, 0, j, 0));
    edges("place i, of two", 0, 1, (x, i) -> x.copy(0, 0, i, 0, 2));
    edges("place j, of two", 0, 1, (x, j) -> x.copy(0, 0, 0, j, 2));
    edges("n", 0, 3, (x, n) -> x.copy(0, 0, 0, 0, n));
    edges("n from 1 on", 0, 2, (x, n) -> x.copy(0, 0, 1, 0, n));
    edges("n to 2 on", 0, 1, (x, n) -> x.copy(0, 0, 0, 2, n));
    refused(BAD, "i and n are more than a number holds", x -> x.copy(0, 0, Integer.MAX_VALUE, 0, Integer.MAX_VALUE));
    refused(BAD, "j and n are more than a number holds", x -> x.copy(0, 0, 0, Integer.MAX_VALUE, 3));
    refused(BAD, "n is less than none", x -> x.copy(0, 0, 3, 3, Integer.MIN_VALUE));
    refused(OTHER, "from a MOVE", x -> x.copy(2, 0, 0, 0, 1));
    refused(OTHER, "to a MOVE", x -> x.copy(0, 2, 0, 0, 1));
    refused(OTHER, "of MOVES", x -> x.copy(2, 2, 0, 0, 0));
    refused(OTHER, "of two SORTS", x -> x.copy(0, 1, 0, 0, 1));
    refused(OTHER, "of two SORTS, none", x -> x.copy(1, 0, 0, 0, 0));
    refused(NOTHING, "from NOTHING", x -> x.copy(7, 0, 0, 0, 0));
    refused(NOTHING, "to NOTHING", x -> x.copy(0, 7, 0, 0, 0));
    refused(NOTHING, "of NOTHING", x -> x.copy(7, 6, 0, 0, 0));
    ahead(BAD, OTHER, "p is no SHELF, q holds a MOVE", x -> x.copy(8, 2, 0, 0, 0));
    ahead(BAD, OTHER, "q is no SHELF, p holds a MOVE", x -> x.copy(2, -1, 0, 0, 0));
    ahead(BAD, NOTHING, "p is no SHELF, q holds NOTHING", x -> x.copy(-1, 7, 0, 0, 0));
    ahead(BAD, NOTHING, "q is no SHELF, p holds NOTHING", x -> x.copy(7, 8, 0, 0, 0));
    ahead(OTHER, NOTHING, "p holds a MOVE, q NOTHING", x -> x.copy(2, 7, 0, 0, 0));
    ahead(OTHER, NOTHING, "p holds NOTHING, q a MOVE", x -> x.copy(7, 2, 0, 0, 0));
    ahead(OTHER, BAD, "a MOVE, and too many", x -> x.copy(2, 0, 0, 0, 41));
    ahead(OTHER, BAD, "two SORTS, and too many", x -> x.copy(0, 1, -1, 0, 41));
    ahead(NOTHING, BAD, "NOTHING, and too many", x -> x.copy(7, 0, 0, -1, 41));
    sentence("come to places j on of that in q (as they were): n.");
    TheOtherRoom x = new TheOtherRoom();
    long[] all = new long[40];
    for (int i = 0; i < 40; i++) all[i] = i + 1;
    Sentences.row(x, 0, 0, all);
    x.row(1, 0, 40);
    due("all of 40", x.copy(0, 1, 0, 0, 40), 40);
    due("the first and the last", x.element(1, 0) * 100 + x.element(1, 39), 140);
    due("forth, one over the other", x.copy(0, 0, 0, 1, 39), 39);
    for (int i = 0; i < 40; i++) due("as they were", x.element(0, i), Math.max(1, i));
    due("back, one over the other", x.copy(1, 1, 1, 0, 39), 39);
    for (int i = 0; i < 40; i++) due("as they were", x.element(1, i), Math.min(40, i + 2));
    x.row(2, 0, 0);
    due("none of none", x.copy(2, 2, 0, 0, 0), 0);
    due("none at both ends", x.copy(0, 1, 40, 40, 0), 0);
  }

  static void p5() {
    promise(5, "Element i of the ROW; 0: none, no ROW (nothing is refused).");
    quietEdges("element of 3", 0, 2, 0, (x, i) -> x.element(0, i));
    quietEdges("SHELF", 0, 7, 0, (x, s) -> x.element(s, 0));
    quiet("the first", 1010, x -> x.element(0, 0));
    quiet("the last", 2, x -> x.element(0, 2));
    quiet("the last of the other", -5, x -> x.element(1, 1));
    quiet("a SLIDE", 0, x -> x.element(2, 0));
    quiet("a CARRY", 0, x -> x.element(3, 0));
    quiet("NOTHING", 0, x -> x.element(7, 0));
    Sentences.Maker shorter = () -> { TheOtherRoom x = room(); x.row(0, 2, 1); return x; };
    Sentences.quiet(shorter, "one that the ROW ahead had", 0, x -> x.element(0, 1));
    Sentences.Maker over = () -> { TheOtherRoom x = room(); x.move(0, 1, 0, 0); return x; };
    Sentences.quiet(over, "one that the ROW ahead had", 0, x -> x.element(0, 0));
  }

  static void p6() {
    promise(6, "NONE NOTHING, no SHELF; 0 to 4 a ROW by its SORT; 10 and the KIND of a MOVE.");
    quietEdges("SHELF", 0, 7, NONE, (x, s) -> x.holds(s));
    quiet("NOTHING", NONE, x -> x.holds(7));
    quiet("ints", 2, x -> x.holds(0));
    quiet("longs", 3, x -> x.holds(1));
    quiet("a SLIDE", 11, x -> x.holds(2));
    quiet("a CARRY", 13, x -> x.holds(3));
    TheOtherRoom x = new TheOtherRoom();
    for (int sort = 0; sort <= 4; sort++) due("a ROW", x.row(sort, sort, 0) * 100 + x.holds(sort), 100 + sort);
    for (int kind = 1; kind <= 5; kind++) due("a MOVE", x.move(kind, kind, 0, 0) * 100 + x.holds(kind), 110 + kind);
  }

  static void p7() {
    promise(7, "SHELF s holds a MOVE of a KIND (1 to 5) of a THING (0 to 5), told as it is (of TURN, OUT it doesn't matter): 1.");
    edges("SHELF", 0, 7, (x, s) -> x.move(s, 1, 0, 0));
    edges("KIND", 1, 5, (x, kind) -> x.move(0, kind, 0, 0));
    edges("THING", 0, 5, (x, thing) -> x.move(0, 1, thing, 0));
    edges("THING of a TURN", 0, 5, (x, thing) -> x.move(0, 2, thing, 0));
    int[] odd = {Integer.MIN_VALUE, -1, 0, 4, 128, 200, 201, Integer.MAX_VALUE};
    for (int told : odd) {
      TheOtherRoom x = room();
      due("TURN told " + told, x.move(0, 2, 5, told) * 1000 + x.says(0, 2) * 10 + x.says(0, 0), 1045);
      due("OUT told " + told, x.move(0, 4, 5, told) * 10000 + x.says(0, 4) * 10 + x.says(0, 0), 12005);
    }
    sentence("BAD (told: of SLIDE 0 to 3, of CARRY a SPOT 0 to 127 or 200, of IN a SPOT).");
    edges("SLIDE", 0, 3, (x, told) -> x.move(0, 1, 0, told));
    edges("IN", 0, 127, (x, told) -> x.move(0, 5, 0, told));
    for (int told : new int[] {-1, 128, 199, 201, Integer.MIN_VALUE, Integer.MAX_VALUE, 456, -56})
      refused(BAD, "CARRY told " + told, x -> x.move(0, 3, 0, told));
    for (int told : new int[] {0, 127, 200}) {
      TheOtherRoom x = room();
      due("CARRY told " + told, x.move(0, 3, 0, told) * 1000 + x.says(0, 3), 1000 + told);
    }
    TheOtherRoom x = room();
    due("IN told 127", x.move(0, 5, 0, 127) * 1000 + x.says(0, 5), 1127);
    due("over a ROW", x.holds(0), 15);
    due("a ROW's elements are gone", x.element(0, 0), 0);
  }

  static void p8() {
    promise(8, "MOVE its THING; SLIDE where (of TURN 4); TURN 4; CARRY what is told (of OUT 200); OUT 200; IN what is told.");
    int[][] says = {
      {5, 3, OTHER, OTHER, OTHER, OTHER},
      {4, 4, 4, OTHER, OTHER, OTHER},
      {3, OTHER, OTHER, 12, OTHER, OTHER},
      {2, OTHER, OTHER, 200, 200, OTHER},
      {1, OTHER, OTHER, 9, OTHER, 9}};
    int[][] moves = {{1, 5, 3}, {2, 4, 77}, {3, 3, 12}, {4, 2, 77}, {5, 1, 9}};
    for (int i = 0; i < 5; i++) {
      int[] m = moves[i];
      for (int kind = 0; kind <= 5; kind++) {
        int k = kind, want = says[i][kind];
        Sentences.Maker holds = () -> { TheOtherRoom x = room(); x.move(7, m[0], m[1], m[2]); return x; };
        String what = "KIND " + m[0] + " taken for " + kind;
        if (want == OTHER) Sentences.refused(holds, OTHER, what, x -> x.says(7, k));
        else Sentences.quiet(holds, what, want, x -> x.says(7, k));
      }
    }
    sentence("BAD SHELF, KIND; OTHER (also if it is of no such KIND nor of one under it); NOTHING.");
    edges("SHELF", 0, 7, (x, s) -> x.says(s, 1));
    edges("KIND", 0, 5, (x, kind) -> x.says(2, kind));
    for (int kind = 0; kind <= 5; kind++) {
      int k = kind;
      refused(OTHER, "a ROW", x -> x.says(0, k));
      refused(NOTHING, "NOTHING", x -> x.says(7, k));
    }
    ahead(BAD, OTHER, "KIND 6 of a ROW", x -> x.says(0, 6));
    ahead(BAD, OTHER, "KIND -1 of a ROW", x -> x.says(0, -1));
    ahead(BAD, OTHER, "KIND 6 of a MOVE", x -> x.says(2, 6));
    ahead(BAD, NOTHING, "KIND 6 of NOTHING", x -> x.says(7, 6));
    ahead(BAD, NOTHING, "KIND -1 of NOTHING", x -> x.says(7, -1));
  }

  /** A room with a MOVE in SHELF 7 that can't be. */
  static Sentences.Maker hopeless(int kind, int thing, int told) {
    return () -> { TheOtherRoom x = room(); x.move(7, kind, thing, told); return x; };
  }

  /** KIND, THING, what is told: none of these can be in FLAT 0 of a room. */
  static final int[][] HOPELESS = {{1, 0, 0}, {1, 0, 2}, {1, 0, 3}, {1, 2, 1}, {1, 3, 1}, {1, 4, 1}, {1, 5, 1}, {2, 0, 0},
    {2, 1, 0}, {2, 4, 0}, {3, 0, 0}, {3, 0, 6}, {3, 0, 22}, {3, 0, 24}, {3, 0, 127}, {3, 1, 1}, {3, 1, 22}, {3, 2, 20},
    {3, 3, 10}, {3, 4, 10}, {3, 5, 200}, {4, 0, 0}, {4, 2, 0}, {4, 5, 0}, {5, 0, 4}, {5, 1, 6}, {5, 5, 6}};

  static void p9() {
    promise(9, "How many STEPS the MOVE in SHELF s takes in a FLAT; 0: it CAN'T BE.");
    for (int[] m : HOPELESS)
      Sentences.quiet(hopeless(m[0], m[1], m[2]), "KIND " + m[0] + " of " + m[1] + " told " + m[2], 0, x -> x.can(0, 7));
    quiet("one STEP", 1, x -> x.can(0, 2));
    Sentences.quiet(hopeless(3, 0, 18), "more STEPS", 3, x -> x.can(0, 7));
    quiet("a FLAT without THINGS", 0, x -> x.can(1, 2));
    sentence("BAD; OTHER; NOTHING.");
    flatEdges((x, f) -> x.can(f, 2));
    edges("SHELF", 0, 7, (x, s) -> x.can(0, s));
    refused(OTHER, "a ROW", x -> x.can(0, 0));
    refused(NOTHING, "NOTHING", x -> x.can(0, 7));
    ahead(BAD, OTHER, "no FLAT, a ROW", x -> x.can(2, 0));
    ahead(BAD, NOTHING, "no FLAT, NOTHING", x -> x.can(-1, 7));
  }

  static void p10() {
    promise(10, "BAD; OTHER; NOTHING; STUCK: it CAN'T BE.");
    flatEdges((x, f) -> x.make(f, 2));
    edges("SHELF", 0, 7, (x, s) -> x.make(0, s));
    refused(OTHER, "a ROW", x -> x.make(0, 0));
    refused(NOTHING, "NOTHING", x -> x.make(0, 7));
    ahead(BAD, OTHER, "no FLAT, a ROW", x -> x.make(2, 0));
    ahead(BAD, NOTHING, "no FLAT, NOTHING", x -> x.make(-1, 7));
    refused(STUCK, "a FLAT without THINGS", x -> x.make(1, 2));
    for (int[] m : HOPELESS)
      Sentences.refused(hopeless(m[0], m[1], m[2]), STUCK, "KIND " + m[0] + " of " + m[1] + " told " + m[2],
          x -> x.make(0, 7));
    sentence("is made in a FLAT: its STEPS.");
    TheOtherRoom x = room();
    due("a SLIDE", x.make(0, 2), 1);
    due("it STANDS so", x.thingOf(0, 1, 5), 4);
    due("STEPS, no CARRY", x.flatOf(0, 6) * 100 + x.flatOf(0, 7), 205);
    due("a CARRY", x.make(0, 3), 2);
    due("it STANDS so", x.thingOf(0, 1, 5), 10);
    due("STEPS, and a CARRY", x.flatOf(0, 6) * 100 + x.flatOf(0, 7), 307);
  }

  // ---- THE TAPE

  /** THE TAPE has so many bytes, blanks. */
  static Sentences.Maker taped(int size) {
    return () -> {
      TheOtherRoom x = new TheOtherRoom();
      Sentences.flat(x, "board 2 by 2");
      x.image();
      StringBuilder b = new StringBuilder();
      while (b.length() < size) b.append(' ');
      Sentences.feed(x, b.toString());
      return x;
    };
  }

  static void p11() {
    promise(11, "THE TAPE gets the n lowest bytes (1 .. 4) of v behind it, the highest of these first: its size.");
    edges("n", 1, 4, (x, n) -> x.feed(0x20202020, n));
    String text = "board 2 by 2";
    for (int n = 1; n <= 4; n++) {
      TheOtherRoom x = new TheOtherRoom();
      int size = 0;
      for (int i = 0; i < text.length(); i += n) {
        // above the n lowest bytes there is something else
        int v = -1;
        for (int k = i; k < i + n; k++) v = v << 8 | (k < text.length() ? text.charAt(k) : ' ');
        size += n;
        due("its size", x.feed(v, n), size);
      }
      due("a FLAT", x.flat(), 0);
    }
    int[] strange = {0, 255, 128, -1, Integer.MIN_VALUE, 0x100, 0x7FFFFF00};
    for (int v : strange) {
      TheOtherRoom x = new TheOtherRoom();
      Sentences.feed(x, text);
      due("a byte", x.feed(v, 1), 13);
      due("that begins no TOKEN", x.flat(), -32);
    }
    TheOtherRoom blank = new TheOtherRoom();
    Sentences.feed(blank, text);
    blank.feed(0x7FFFFF20, 1);
    due("a blank, whatever is above it", blank.flat(), 0);
    sentence("BAD; FULL.");
    for (int n = 1; n <= 4; n++) {
      int bytes = n;
      due("up to 200", taped(200 - n).make().feed(0, n), 200);
      for (int over = 1; over <= n; over++)
        Sentences.refused(taped(200 - n + over), FULL, "beyond 200 by " + over, x -> x.feed(0, bytes));
    }
    for (int n : new int[] {0, 5, -1, Integer.MIN_VALUE, Integer.MAX_VALUE}) {
      Sentences.ahead(taped(200), BAD, FULL, "n " + n, x -> x.feed(0, n));
      Sentences.refused(taped(0), BAD, "n " + n, x -> x.feed(0, n));
    }
  }

  static void p12() {
    promise(12, "THE TAPE is empty: its size ahead.");
    for (int size : new int[] {0, 1, 199, 200}) {
      TheOtherRoom x = taped(size).make();
      due("its size", x.wipe(), size);
      due("empty", x.status(1), 0);
      due("empty", x.wipe(), 0);
      due("nothing of it is left", Sentences.flat(x, "board 3 by 3"), 1);
    }
    TheOtherRoom x = taped(200).make();
    due("FULL", x.feed(0, 1), FULL);
    x.wipe();
    due("it takes bytes again", x.feed(0, 4), 4);
  }

  static void p13() {
    promise(13, "THE TAPE is a FLAT: its number; -20 less the FAULT (that is refused, too: BAD).");
    String[] texts = {"", "x", "board 2 by 9", "board 2 by 2;thing 2 by 1 at 1"};
    int[] faults = {0, 0, 11, 29};
    for (int i = 0; i < texts.length; i++) {
      String text = texts[i];
      TheOtherRoom x = with("board 2 by 2");
      int bad = x.status(12);
      due("a FAULT", Sentences.flat(x, text), -20 - faults[i]);
      due("BAD is counted", x.status(12) - bad, 1);
      for (int k = 13; k <= 16; k++) due("no other", x.status(k), 0);
      due("THE TAPE is empty", x.status(1), 0);
      due("no FLAT more", x.status(0), 1);
      due("no FLAT 1", x.flatOf(1, 0), BAD);
      due("nothing of it is left", Sentences.flat(x, "board 3 by 4") * 100 + x.flatOf(1, 2), 100);
    }
    TheOtherRoom end = taped(200).make();
    due("the FAULT is 200", end.flat(), -220);
    Sentences.Maker faulty = () -> { TheOtherRoom x = room(); Sentences.feed(x, ";thing 1 by 1 at 12"); return x; };
    Sentences.Maker empty = () -> { TheOtherRoom x = room(); x.wipe(); return x; };
    Sentences.refusedAs(faulty, empty, BAD, -20 - 29, "only THE TAPE becomes empty", x -> x.flat());
    TheOtherRoom after = new TheOtherRoom();
    due("a FAULT at last", Sentences.flat(after, "board 3 by 3;hands 3;landing 3 door 4;thing 1 by 1 at 0;wall 1;x"), -20 - 63);
    due("nothing of it is left", Sentences.flat(after, "board 2 by 2"), 0);
    int[] told = {2, 2, 0, 2, 0, 0, 0, 0, 0};
    for (int i = 0; i <= 8; i++) due("what " + i, after.flatOf(0, i), told[i]);
    due("FLOOR", after.floor(0, 0), 15);
    sentence("FULL (ahead of all; THE TAPE stays).");
    Sentences.refused(PromiseBoundaries::full, FULL, "a fifth", x -> x.flat());
    Sentences.ahead(() -> { TheOtherRoom x = full(); x.feed('!', 1); return x; }, FULL, BAD, "a FAULT", x -> x.flat());
    Sentences.ahead(() -> { TheOtherRoom x = full(); x.wipe(); return x; }, FULL, BAD, "no TAPE", x -> x.flat());
    TheOtherRoom x = new TheOtherRoom();
    for (int i = 0; i < 4; i++) due("its number", Sentences.flat(x, "board 2 by " + (i + 2)), i);
    Sentences.feed(x, "board 8 by 8");
    due("FULL", x.flat(), FULL);
    due("THE TAPE stays", x.status(1), 12);
    for (int i = 0; i < 4; i++) due("as they were", x.flatOf(i, 1), i + 2);
    for (int i = 0; i < 4; i++) due("a FLAT for itself", x.flatOf(i, 0), 2);
  }

  // ---- FLATS

  static void p14() {
    promise(14, "W (0), H (1), THINGS (2), hands (3), landing (4), door (5), CARRIES made");
    int[] told = {4, 3, 4, 2, 1, 3, 2, 4, 0}, other = {2, 2, 0, 2, 0, 0, 0, 0, 0};
    for (int i = 0; i <= 8; i++) {
      int what = i;
      quiet("what " + i, told[i], x -> x.flatOf(0, what));
      quiet("what " + i + " of another", other[i], x -> x.flatOf(1, what));
    }
    sentence("THINGS on the LANDING (8). BAD.");
    flatEdges((x, f) -> x.flatOf(f, 0));
    edges("what", 0, 8, (x, what) -> x.flatOf(0, what));
    TheOtherRoom x = with("board 2 by 2;landing 3 door 0;thing 1 by 1 at 0;thing 1 by 1 at 1;thing 1 by 1 at 2");
    for (int i = 0; i < 3; i++) due("on the LANDING", x.flatOf(0, 8) + x.put(0, i, 200), i + 1);
    due("all on the LANDING", x.flatOf(0, 8), 3);
    sentence("(carry(), MOVES of KIND 3 alone) (6), STEPS of all MOVES made (7)");
    TheOtherRoom y = with("board 3 by 3;landing 1 door 0;thing 2 by 1 at 0");
    int[][] made = {{1, 1, 0, 1}, {1, 3, 0, 2}, {2, 0, 0, 3}, {3, 2, 1, 5}, {3, 0, 2, 6}, {4, 0, 2, 7}, {5, 1, 2, 8}};
    for (int[] m : made) {
      y.move(0, m[0], 0, m[1]);
      due("make KIND " + m[0], y.make(0, 0) > 0 ? 1 : 0, 1);
      due("CARRIES", y.flatOf(0, 6), m[2]);
      due("STEPS", y.flatOf(0, 7), m[3]);
    }
    due("carry()", y.carry(0, 0, 200) + 10 * y.flatOf(0, 6) + 100 * y.flatOf(0, 7), 1 + 30 + 900);
  }

  static void p15() {
    promise(15, "W (0), H (1), how heavy (2), 1 if fixed (3), 1 if plain (4), how it STANDS (5). BAD.");
    flatEdgesOfOne((x, f) -> x.thingOf(f, 0, 0));
    edges("THING", 0, 3, (x, t) -> x.thingOf(0, t, 0));
    edges("what", 0, 5, (x, what) -> x.thingOf(0, 0, what));
    int[][] told = {{2, 1, 1, 0, 0, 0}, {1, 1, 1, 0, 0, 6}, {1, 1, 1, 1, 0, 16}, {1, 1, 3, 0, 0, 8}};
    for (int t = 0; t < 4; t++)
      for (int i = 0; i <= 5; i++) {
        int thing = t, what = i;
        quiet("THING " + t + " what " + i, told[t][i], x -> x.thingOf(0, thing, what));
      }
    refused(BAD, "a FLAT without THINGS", x -> x.thingOf(1, 0, 0));
  }

  static void p16() {
    promise(16, "FLOOR (bits; what 0), CELLS that are covered (1), FLOOR that is free (2). BAD: 0, nothing is refused.");
    long[] told = {0x7FF, 0x11B, 0x6E4};
    for (int i = 0; i < 3; i++) {
      int what = i;
      quiet("what " + i, told[i], x -> x.floor(0, what));
      quietEdges("FLAT", 0, 1, 0, (x, f) -> x.floor(f, what));
    }
    quietEdges("what", 0, 2, 0, (x, what) -> x.floor(0, what));
    TheOtherRoom x = with("board 8 by 8;thing 1 by 1 at 63", "board 2 by 2;wall 0;wall 1;wall 2;wall 3",
        "board 2 by 2;landing 1 door 0;thing 2 by 2 at 0");
    due("all of 64", x.floor(0, 0), -1L);
    due("the last one", x.floor(0, 1), Long.MIN_VALUE);
    due("all but that", x.floor(0, 2), Long.MAX_VALUE);
    due("no FLOOR", x.floor(1, 0) | x.floor(1, 1) | x.floor(1, 2), 0);
    due("all covered", x.floor(2, 0) * 10000 + x.floor(2, 1) * 100 + x.floor(2, 2), 151500);
    x.put(2, 0, 200);
    due("on the LANDING", x.floor(2, 0) * 10000 + x.floor(2, 1) * 100 + x.floor(2, 2), 150015);
  }

  static void p17() {
    promise(17, "Which THING covers a CELL; NONE: none does. BAD: CELL, too.");
    flatEdges((x, f) -> x.at(f, 0));
    edges("CELL", 0, 11, (x, c) -> x.at(0, c));
    edges("CELL of 4", 0, 3, (x, c) -> x.at(1, c));
    Sentences.edges(() -> with("board 8 by 8"), "CELL of 64", 0, 63, (x, c) -> x.at(0, c));
    int[] told = {0, 0, NONE, 1, 3, NONE, NONE, NONE, 2, NONE, NONE, NONE};
    for (int c = 0; c < 12; c++) {
      int cell = c;
      quiet("CELL " + c, told[c], x -> x.at(0, cell));
    }
    TheOtherRoom x = with("board 8 by 8;thing 1 by 1 at 63;thing 1 by 1 at 0");
    due("the first", x.at(0, 0), 1);
    due("the last", x.at(0, 63), 0);
  }

  static void p18() {
    promise(18, "CELLS (bits) that a THING would cover at a SPOT; 0: not of the board, no SPOT, nothing such (nothing is refused).");
    quietEdges("FLAT", 0, 0, 0, (x, f) -> x.covers(f, 0, 0));
    quietEdges("THING", 0, 3, 0, (x, t) -> x.covers(0, t, 0));
    quietEdges("SPOT", 0, 23, 0, (x, spot) -> x.covers(0, 1, spot));
    for (int c = 0; c < 12; c++) {
      int spot = 2 * c;
      boolean across = c % 4 < 3, down = c < 8;
      quiet("not turned " + c, across ? 3L << c : 0, x -> x.covers(0, 0, spot));
      quiet("turned " + c, down ? 0x11L << c : 0, x -> x.covers(0, 0, spot + 1));
      quiet("W is H " + c, 1L << c, x -> x.covers(0, 1, spot));
      quiet("W is H, turned " + c, 0, x -> x.covers(0, 1, spot + 1));
    }
    quiet("the LANDING", 0, x -> x.covers(0, 0, 200));
    TheOtherRoom x = with("board 8 by 8;thing 1 by 1 at 0;thing 3 by 3 at 1");
    due("the last CELL", x.covers(0, 0, 126), Long.MIN_VALUE);
    due("the last SPOT of 3 by 3", x.covers(0, 1, 2 * 45), 0xE0E0E0L << 40);
    due("off to the right", x.covers(0, 1, 2 * 46), 0);
    due("off below", x.covers(0, 1, 2 * 53), 0);
    due("no SPOT", x.covers(0, 0, 128) | x.covers(0, 0, 127) | x.covers(0, 0, 254), 0);
  }

  static void p19() {
    promise(19, "A CELL is FLOOR, or a wall: 1; 0: it was so.");
    for (int c : new int[] {2, 5, 10}) {
      quiet("FLOOR is FLOOR", 0, x -> x.wall(0, c, false));
      TheOtherRoom x = room();
      due("a wall", x.wall(0, c, true) * 10 + x.wall(0, c, true), 10);
      due("FLOOR", x.floor(0, 0), 0x7FF & ~(1 << c));
      due("FLOOR again", x.wall(0, c, false) * 10 + x.wall(0, c, false), 10);
      due("FLOOR", x.floor(0, 0), 0x7FF);
    }
    quiet("a wall is a wall", 0, x -> x.wall(0, 11, true));
    TheOtherRoom y = with("board 8 by 8");
    due("the last of 64", y.wall(0, 63, true) * 10 + y.wall(0, 0, true), 11);
    due("FLOOR", y.floor(0, 0), Long.MAX_VALUE - 1);
    due("FLOOR again", y.wall(0, 63, false) * 10 + y.wall(0, 0, false), 11);
    due("FLOOR", y.floor(0, 0), -1);
    sentence("BAD; STUCK: a THING covers it.");
    for (boolean is : new boolean[] {true, false}) {
      flatEdges((x, f) -> x.wall(f, 0, is));
      edges("CELL", 0, 11, (x, c) -> x.wall(0, c, is));
      edges("CELL of 4", 0, 3, (x, c) -> x.wall(1, c, is));
      for (int c : new int[] {0, 1, 3, 4, 8}) refused(STUCK, "CELL " + c, x -> x.wall(0, c, is));
    }
    Sentences.edges(() -> with("board 8 by 8"), "CELL of 64", 0, 63, (x, c) -> x.wall(0, c, true));
  }

  static void p20() {
    promise(20, "hands (what 0), landing (1), door (2) of a FLAT becomes v, as told: what it was.");
    int[] lowest = {1, 0, 0}, highest = {3, 3, 11}, was = {2, 1, 3};
    for (int w = 0; w < 3; w++) {
      int what = w;
      edges("v of what " + w, lowest[w], highest[w], (x, v) -> x.alter(0, what, v));
      flatEdges((x, f) -> x.alter(f, what, 1));
      for (int v = lowest[w]; v <= highest[w]; v++) {
        TheOtherRoom x = room();
        due("what it was", x.alter(0, w, v), was[w]);
        for (int k = 0; k < 3; k++) due("as told, and the others as they were", x.flatOf(0, 3 + k), k == w ? v : was[k]);
        due("what it was then", x.alter(0, w, was[w]), v);
      }
    }
    edges("door of 4", 0, 3, (x, v) -> x.alter(1, 2, v));
    edges("what", 0, 2, (x, what) -> x.alter(0, what, 1));
    sentence("BAD; STUCK: landing below how many are there.");
    for (int n = 0; n <= 3; n++) {
      int there = n;
      Sentences.Maker landed = () -> {
        TheOtherRoom x = new TheOtherRoom();
        Sentences.flat(x, "board 2 by 2;landing 3 door 0;thing 1 by 1 at 0;thing 1 by 1 at 1;thing 1 by 1 at 2");
        for (int i = 0; i < there; i++) x.put(0, i, 200);
        return x;
      };
      for (int v = 0; v <= 3; v++) {
        int to = v;
        if (v < n) Sentences.refused(landed, STUCK, n + " are there: " + v, x -> x.alter(0, 1, to));
        else due(n + " are there: " + v, landed.make().alter(0, 1, v), 3);
      }
      Sentences.ahead(landed, BAD, STUCK, n + " are there: -1", x -> x.alter(0, 1, -1));
      Sentences.refused(landed, BAD, n + " are there: 4", x -> x.alter(0, 1, 4));
      due("hands don't matter", landed.make().alter(0, 0, 1), 2);
      due("the door doesn't matter", landed.make().alter(0, 2, 0), 0);
    }
  }

  // ---- CARRIES

  /** Places that are none of THING 0 (2 by 1) of a room. */
  static final int[] NO_PLACES = {-1, -2, 6, 14, 22, 17, 19, 21, 23, 24, 25, 126, 127, 128, 199, 201, 400,
    Integer.MIN_VALUE, Integer.MAX_VALUE};

  static void placeEdges(Sentences.OfNumber c) {
    for (int place : NO_PLACES) refused(BAD, "place " + place, x -> c.on(x, place));
  }

  interface OfPlace { long on(TheOtherRoom x, int thing, int place); }

  /** THING 1 is never turned, THING 4 is none. */
  static void thingEdges(OfPlace c) {
    edges("THING", 0, 3, (x, t) -> c.on(x, t, 4));
    edges("THING to the LANDING", 0, 3, (x, t) -> c.on(x, t, 200));
    placeEdges((x, place) -> c.on(x, 0, place));
    for (int place = 1; place < 24; place += 2) {
      int turned = place;
      refused(BAD, "W is H, turned: " + place, x -> c.on(x, 1, turned));
    }
    refused(BAD, "no CELL of it", x -> c.on(x, 1, 24));
  }

  static void p21() {
    promise(21, "The fewest STEPS of a CARRY of a THING to a SPOT, or 200; 0: it STANDS so; NONE: none can be. BAD: no such place, too.");
    flatEdgesOfOne((x, f) -> x.steps(f, 1, 0));
    thingEdges((x, t, place) -> x.steps(0, t, place));
    refused(BAD, "a FLAT without THINGS", x -> x.steps(1, 0, 200));
    int[] stands = {0, 6, 16, 8};
    for (int t = 0; t < 4; t++) {
      int thing = t;
      quiet("it STANDS so", 0, x -> x.steps(0, thing, stands[thing]));
    }
    quiet("one STEP", 1, x -> x.steps(0, 1, 4));
    quiet("OUT", 1, x -> x.steps(0, 1, 200));
    quiet("a wall", NONE, x -> x.steps(0, 1, 22));
    quiet("another one", NONE, x -> x.steps(0, 1, 2));
    quiet("a fixed one", NONE, x -> x.steps(0, 2, 18));
    quiet("a fixed one, OUT", NONE, x -> x.steps(0, 2, 200));
    quiet("too heavy", NONE, x -> x.steps(0, 3, 10));
    quiet("too heavy, OUT", NONE, x -> x.steps(0, 3, 200));
    Sentences.Maker landed = () -> { TheOtherRoom x = room(); x.put(0, 1, 200); return x; };
    Sentences.quiet(landed, "it is on the LANDING", 0, x -> x.steps(0, 1, 200));
    Sentences.quiet(landed, "the LANDING is full", NONE, x -> x.steps(0, 0, 200));
    Sentences.quiet(landed, "from the LANDING", 1, x -> x.steps(0, 1, 6));
  }

  static void p22() {
    promise(22, "To how many others a THING can be CARRIED (SPOTS and the LANDING). BAD.");
    flatEdgesOfOne((x, f) -> x.reach(f, 1));
    edges("THING", 0, 3, (x, t) -> x.reach(0, t));
    refused(BAD, "a FLAT without THINGS", x -> x.reach(1, 0));
    quiet("fixed", 0, x -> x.reach(0, 2));
    quiet("too heavy", 0, x -> x.reach(0, 3));
    quiet("SPOTS 4, 10, 12, 14, 18, 20 and the LANDING", 7, x -> x.reach(0, 1));
    TheOtherRoom x = with("board 2 by 2;thing 2 by 2 at 0;landing 1 door 3", "board 8 by 8;thing 1 by 1 at 0;landing 1 door 9",
        "board 8 by 8;thing 1 by 2 at 0", "board 2 by 2;thing 1 by 1 at 0;wall 1;wall 2");
    due("the LANDING alone", x.reach(0, 0), 1);
    due("all SPOTS but its own, and the LANDING", x.reach(1, 0), 64);
    due("all SPOTS but its own", x.reach(2, 0), 111);
    due("none", x.reach(3, 0), 0);
    x.alter(0, 1, 0);
    due("no LANDING", x.reach(0, 0), 0);
  }

  static void p23() {
    promise(23, "A THING is CARRIED: STEPS. BAD: no such place; STUCK: it can't be, it STANDS so.");
    flatEdgesOfOne((x, f) -> x.carry(f, 1, 0));
    thingEdges((x, t, place) -> x.carry(0, t, place));
    refused(BAD, "a FLAT without THINGS", x -> x.carry(1, 0, 200));
    int[][] stuck = {{0, 0}, {1, 6}, {2, 16}, {3, 8}, {1, 22}, {1, 2}, {1, 16}, {2, 18}, {2, 200}, {3, 10}, {3, 200}, {0, 1},
      {0, 20}};
    for (int[] s : stuck) refused(STUCK, "THING " + s[0] + " to " + s[1], x -> x.carry(0, s[0], s[1]));
    ahead(BAD, STUCK, "a fixed one to no place", x -> x.carry(0, 2, 24));
    ahead(BAD, STUCK, "a heavy one to no place", x -> x.carry(0, 3, 9));
    Sentences.Maker landed = () -> { TheOtherRoom x = room(); x.put(0, 1, 200); x.put(0, 0, 4); return x; };
    Sentences.refused(landed, STUCK, "the LANDING is full", x -> x.carry(0, 0, 200));
    Sentences.refused(landed, STUCK, "it is on the LANDING", x -> x.carry(0, 1, 200));
    Sentences.refused(landed, STUCK, "another covers the DOOR", x -> x.carry(0, 1, 0));
    Sentences.Maker none = () -> { TheOtherRoom x = room(); x.alter(0, 1, 0); return x; };
    Sentences.refused(none, STUCK, "no LANDING", x -> x.carry(0, 1, 200));
    TheOtherRoom x = room();
    due("STEPS", x.carry(0, 1, 10), 3);
    due("it STANDS so", x.thingOf(0, 1, 5), 10);
    due("CARRIES and STEPS", x.flatOf(0, 6) * 100 + x.flatOf(0, 7), 307);
  }

  static void p24() {
    promise(24, "A THING is put to a SPOT or on the LANDING, however (nothing is counted): 1.");
    int[][] may = {{0, 0}, {0, 10}, {0, 5}, {1, 6}, {1, 4}, {1, 200}, {2, 16}, {2, 20}, {2, 200}, {3, 8}, {3, 14}, {3, 200}};
    for (int[] m : may) {
      TheOtherRoom x = room();
      due("put " + m[0] + " to " + m[1], x.put(0, m[0], m[1]), 1);
      due("it STANDS so", x.thingOf(0, m[0], 5), m[1]);
      due("nothing is counted", x.flatOf(0, 6) * 100 + x.flatOf(0, 7), 204);
      due("again", x.put(0, m[0], m[1]), 1);
    }
    sentence("BAD; STUCK: it can't STAND so, the LANDING is full.");
    flatEdgesOfOne((x, f) -> x.put(f, 1, 4));
    thingEdges((x, t, place) -> x.put(0, t, place));
    refused(BAD, "a FLAT without THINGS", x -> x.put(1, 0, 200));
    int[][] stuck = {{1, 22}, {1, 0}, {1, 2}, {1, 8}, {1, 16}, {0, 20}, {0, 4}, {0, 1}, {0, 15}, {0, 16}, {0, 8}, {2, 0}};
    for (int[] s : stuck) refused(STUCK, "THING " + s[0] + " to " + s[1], x -> x.put(0, s[0], s[1]));
    for (int landing = 0; landing <= 3; landing++) {
      int most = landing;
      Sentences.Maker full = () -> {
        TheOtherRoom x = room();
        x.alter(0, 1, most);
        for (int i = 0; i < most; i++) x.put(0, i, 200);
        return x;
      };
      Sentences.refused(full, STUCK, "full with " + most, x -> x.put(0, 3, 200));
      Sentences.ahead(full, BAD, STUCK, "full, and no THING", x -> x.put(0, 4, 200));
      if (most > 0) Sentences.quiet(full, "it is there", 1, x -> x.put(0, most - 1, 200));
    }
    ahead(BAD, STUCK, "an other one's CELL, turned though W is H", x -> x.put(0, 1, 1));
  }

  // ---- DRAWINGS

  static void p25() {
    promise(25, "A THING of a DRAWING (0 to 3) is told to STAND so (a SPOT, 200, NONE): 1. BAD.");
    flatEdgesOfOne((x, f) -> x.draw(f, 0, 1, 4));
    edges("DRAWING", 0, 3, (x, d) -> x.draw(0, d, 0, 4));
    edges("THING", 0, 3, (x, t) -> x.draw(0, 0, t, 4));
    edges("THING, of which nothing is told", 0, 3, (x, t) -> x.draw(0, 0, t, NONE));
    refused(BAD, "a FLAT without THINGS", x -> x.draw(1, 0, 0, NONE));
    for (int place : NO_PLACES) if (place != NONE) refused(BAD, "place " + place, x -> x.draw(0, 0, 0, place));
    for (int cell = 0; cell < 12; cell++) {
      int turned = 2 * cell + 1;
      refused(BAD, "W is H, turned: " + turned, x -> x.draw(0, 0, 1, turned));
    }
    refused(BAD, "no CELL of it", x -> x.draw(0, 0, 1, 24));
    for (int told : new int[] {NONE, 200, 0, 22, 6, 8}) {
      TheOtherRoom x = room();
      due("walls, others and the landing don't matter", x.draw(0, 3, 1, told), 1);
      due("drawn", x.drawn(0, 3, 1), told);
      due("a fixed one", x.draw(0, 3, 2, told) * 1000 + x.drawn(0, 3, 2), 1000 + told);
    }
  }

  static void p26() {
    promise(26, "What is told; NONE. BAD.");
    flatEdgesOfOne((x, f) -> x.drawn(f, 0, 1));
    edges("DRAWING", 0, 3, (x, d) -> x.drawn(0, d, 0));
    edges("THING", 0, 3, (x, t) -> x.drawn(0, 0, t));
    refused(BAD, "a FLAT without THINGS", x -> x.drawn(1, 0, 0));
    int[] told = {7, 14, NONE, NONE}, taken = {0, 6, 16, 8};
    for (int t = 0; t < 4; t++) {
      int thing = t;
      quiet("told of " + t, told[t], x -> x.drawn(0, 0, thing));
      quiet("taken of " + t, taken[t], x -> x.drawn(0, 1, thing));
      quiet("nothing of " + t, NONE, x -> x.drawn(0, 3, thing));
    }
  }

  static void p27() {
    promise(27, "The DRAWING becomes how all STANDS now: how many THINGS. BAD.");
    drawingEdges((x, f, d) -> x.take(f, d));
    for (int n = 0; n <= 6; n++) {
      StringBuilder text = new StringBuilder("board 3 by 3;landing 3 door 0");
      for (int i = 0; i < n; i++) text.append(";thing 1 by 1 at ").append(8 - i);
      TheOtherRoom x = with(text.toString());
      for (int i = 0; i < n && i < 3; i++) x.put(0, i, 200);
      for (int d = 0; d <= 3; d++) due("of " + n, x.take(0, d), n);
      for (int i = 0; i < n; i++) due("drawn", x.drawn(0, 3, i), i < 3 ? 200 : 2 * (8 - i));
    }
  }

  static void p28() {
    promise(28, "How many THINGS aren't as drawn. BAD.");
    drawingEdges((x, f, d) -> x.off(f, d));
    quiet("two", 2, x -> x.off(0, 0));
    quiet("none", 0, x -> x.off(0, 1));
    quiet("nothing is told", 0, x -> x.off(0, 2));
    quiet("no THINGS", 0, x -> x.off(1, 0));
    TheOtherRoom x = with(SIX);
    for (int i = 0; i < 6; i++) due("so far", x.draw(0, 0, i, 2 * i + 2) * 10 + x.off(0, 0), 11 + i);
  }

  static void p29() {
    promise(29, "1 if a DRAWING can be at all (THINGS told with SPOTS that can all be had at once, no more on the LANDING than landing), 0. BAD.");
    drawingEdges((x, f, d) -> x.sound(f, d));
    quiet("nothing is told", 1, x -> x.sound(0, 2));
    quiet("no THINGS", 1, x -> x.sound(1, 0));
    quiet("as all STANDS", 1, x -> x.sound(0, 1));
    quiet("beside one another or not", 0, x -> x.sound(0, 0));
    for (int landing = 0; landing <= 3; landing++)
      for (int told = 0; told <= 4; told++) {
        TheOtherRoom x = room();
        x.alter(0, 1, landing);
        for (int i = 0; i < told; i++) x.draw(0, 2, i, 200);
        due(told + " on a LANDING of " + landing, x.sound(0, 2), told <= landing ? 1 : 0);
      }
    TheOtherRoom both = room();
    both.alter(0, 1, 1);
    for (int i = 0; i < 4; i++) both.draw(0, 2, i, i < 2 ? 200 : i == 2 ? 4 : 14);
    due("two on a LANDING of 1, two at SPOTS", both.sound(0, 2), 0);
    both.draw(0, 2, 1, 10);
    due("one on a LANDING of 1, three at SPOTS", both.sound(0, 2), 1);
    TheOtherRoom x = room();
    x.draw(0, 2, 0, 20);
    due("on a wall", x.sound(0, 2), 0);
    x.wall(0, 11, false);
    due("on FLOOR", x.sound(0, 2), 1);
    x.draw(0, 2, 1, 22);
    due("one CELL of both", x.sound(0, 2), 0);
    x.draw(0, 2, 1, 18);
    due("beside one another", x.sound(0, 2), 1);
    x.draw(0, 2, 1, 16);
    due("where one STANDS of which nothing is told", x.sound(0, 2), 1);
    x.draw(0, 2, 2, 16);
    due("where one is drawn", x.sound(0, 2), 0);
  }

  /** A room with a ROW of longs in SHELF 0. */
  static Sentences.Maker rowed(long... all) {
    return () -> { TheOtherRoom x = room(); Sentences.row(x, 0, 3, all); return x; };
  }

  interface OfCarries { long on(TheOtherRoom x, int flat, int s, int n); }

  static void carriesRefused(OfCarries c) {
    flatEdges((x, f) -> c.on(x, f, 0, 0));
    edges("SHELF", 0, 7, (x, s) -> c.on(x, 0, s, 0));
    Sentences.edges(rowed(new long[40]), "n", 0, 20, (x, n) -> c.on(x, 0, 0, n));
    edges("n of 3", 0, 3, (x, n) -> c.on(x, 0, 0, n));
    edges("n of 2", 0, 2, (x, n) -> c.on(x, 0, 1, n));
    Sentences.edges(rowed(new long[19]), "n of 19", 0, 19, (x, n) -> c.on(x, 0, 0, n));
    Sentences.edges(rowed(), "n of none", 0, 0, (x, n) -> c.on(x, 0, 0, n));
    refused(OTHER, "a MOVE", x -> c.on(x, 0, 2, 0));
    refused(NOTHING, "NOTHING", x -> c.on(x, 0, 7, 0));
    ahead(BAD, OTHER, "no FLAT, a MOVE", x -> c.on(x, 2, 2, 0));
    ahead(BAD, OTHER, "n 21, a MOVE", x -> c.on(x, 0, 2, 21));
    ahead(BAD, OTHER, "n -1, a MOVE", x -> c.on(x, 0, 2, -1));
    ahead(BAD, NOTHING, "no FLAT, NOTHING", x -> c.on(x, -1, 7, 0));
    ahead(BAD, NOTHING, "n 21, NOTHING", x -> c.on(x, 0, 7, 21));
    ahead(OTHER, BAD, "a MOVE has fewer elements", x -> c.on(x, 0, 2, 20));
    ahead(NOTHING, BAD, "NOTHING has fewer elements", x -> c.on(x, 0, 7, 20));
  }

  static void p30() {
    promise(30, "the first that can't be (also one that STANDS so); NONE: all can.");
    quiet("none", NONE, x -> x.judge(0, 0, 0));
    for (int n = 1; n <= 3; n++) {
      int carries = n;
      quiet("all of " + n, NONE, x -> x.judge(0, 0, carries));
    }
    quiet("not as many as there are longs", 0, x -> x.judge(0, 1, 2));
    quiet("no THINGS", 0, x -> x.judge(1, 0, 3));
    quiet("none, of no THINGS", NONE, x -> x.judge(1, 0, 0));
    long[] not = {-1, -5, -1000, -998, 0, 1006, 6, 22, 24, 127, 128, 199, 201, 999, 1001, 1022, 2018, 2200, 3010, 3200,
      4000, 4200, 5000, 6000, 10_000, 1L << 32, (1L << 32) + 1004, 1004 - (1L << 32), 1000L << 32, Long.MAX_VALUE,
      Long.MIN_VALUE, Long.MIN_VALUE + 1004, Integer.MAX_VALUE, Integer.MIN_VALUE};
    for (long v : not) {
      Sentences.quiet(rowed(v), "the first: " + v, 0, x -> x.judge(0, 0, 1));
      // 1006 is another SPOT by then
      Sentences.quiet(rowed(1010, v, 1004), "the second: " + v, v == 1006 ? NONE : 1, x -> x.judge(0, 0, 3));
    }
    Sentences.Maker two = () -> {
      TheOtherRoom x = with("board 3 by 2;thing 1 by 1 at 1;thing 1 by 1 at 2");
      Sentences.row(x, 0, 3, 1000, 4, 1002, 0, 1010);
      return x;
    };
    Sentences.quiet(two, "1000: THING 1 to SPOT 0", NONE, x -> x.judge(0, 0, 5));
    Sentences.quiet(two, "1000: THING 1 to SPOT 0", 4 + 1 + 1 + 4 + 2, x -> x.cost(0, 0, 5));
    sentence("BAD FLAT, SHELF, n; OTHER; NOTHING; BAD: fewer elements.");
    carriesRefused((x, f, s, n) -> x.judge(f, s, n));
    TheOtherRoom x = room();
    long[] twenty = new long[20];
    for (int i = 0; i < 20; i++) twenty[i] = i % 2 == 0 ? 2 : 0;
    Sentences.row(x, 0, 3, twenty);
    due("20", x.judge(0, 0, 20), NONE);
    x.set(0, 19, 2);
    due("the last of 20", x.judge(0, 0, 20), 19);
    due("19 of 20", x.judge(0, 0, 19), NONE);
  }

  static void p31() {
    promise(31, "STEPS of all of these together, till the first that can't be.");
    int[] sums = {0, 3, 7, 8};
    for (int n = 0; n <= 3; n++) {
      int carries = n;
      quiet(n + " of 3", sums[n], x -> x.cost(0, 0, carries));
    }
    quiet("the first can't be", 0, x -> x.cost(0, 1, 2));
    quiet("no THINGS", 0, x -> x.cost(1, 0, 3));
    Sentences.quiet(rowed(1010, 1010, 2), "till the second", 3, x -> x.cost(0, 0, 3));
    Sentences.quiet(rowed(1010, (1L << 32) + 2, 2), "till the second", 3, x -> x.cost(0, 0, 3));
    Sentences.quiet(rowed(1010, 1200, -998), "till the third", 7, x -> x.cost(0, 0, 3));
    sentence("BAD, OTHER, NOTHING likewise.");
    carriesRefused((x, f, s, n) -> x.cost(f, s, n));
    TheOtherRoom x = with("board 8 by 8;thing 1 by 1 at 0");
    long[] twenty = new long[20];
    for (int i = 0; i < 20; i++) twenty[i] = i % 2 == 0 ? 126 : 0;
    Sentences.row(x, 0, 3, twenty);
    due("20", x.cost(0, 0, 20), 20 * 14);
    x.set(0, 19, 126);
    due("the last of 20 can't be", x.cost(0, 0, 20), 19 * 14);
  }

  static void p32() {
    promise(32, "THINGS (bits) for which a THING waits. BAD.");
    flatEdgesOfOne((x, f) -> x.waits(f, 0, 1));
    edges("DRAWING", 0, 3, (x, d) -> x.waits(0, d, 0));
    edges("THING", 0, 3, (x, t) -> x.waits(0, 0, t));
    refused(BAD, "a FLAT without THINGS", x -> x.waits(1, 0, 0));
    quiet("for one", 2, x -> x.waits(0, 0, 0));
    quiet("for none", 0, x -> x.waits(0, 0, 1));
    quiet("as drawn", 0, x -> x.waits(0, 1, 0));
    quiet("nothing is told", 0, x -> x.waits(0, 2, 0));
    TheOtherRoom x = with("board 8 by 8;thing 3 by 3 at 0;thing 1 by 1 at 4;thing 1 by 1 at 5;thing 1 by 1 at 12;"
        + "thing 1 by 1 at 14 fixed;thing 1 by 1 at 22 heavy 3");
    x.draw(0, 0, 0, 2 * 4);
    due("for all others", x.waits(0, 0, 0), 62);
    for (int i = 1; i <= 5; i++) {
      x.draw(0, 0, i, x.thingOf(0, i, 5));
      due("not for those drawn as they STAND", x.waits(0, 0, 0), 62 & -(1 << i + 1));
    }
    x.draw(0, 0, 0, 2 * 1);
    due("not for itself", x.waits(0, 0, 0), 0);
    x.draw(0, 0, 5, 2 * 18);
    due("the last of its CELLS", x.waits(0, 0, 5), 1);
    x.draw(0, 0, 5, 2 * 19);
    due("beside it", x.waits(0, 0, 5), 0);
  }

  static void p33() {
    promise(33, "THINGS (bits) in RINGS. BAD.");
    drawingEdges((x, f, d) -> x.rings(f, d));
    quiet("none, though one waits", 0, x -> x.rings(0, 0));
    quiet("nothing is told", 0, x -> x.rings(0, 2));
    quiet("no THINGS", 0, x -> x.rings(1, 0));
    for (int n = 2; n <= 6; n++) {
      TheOtherRoom x = with(SIX);
      for (int i = 0; i < n - 1; i++) x.draw(0, 0, i, 2 * i + 2);
      due("a row of " + n, x.rings(0, 0), 0);
      x.draw(0, 0, n - 1, 0);
      due("a RING of " + n, x.rings(0, 0), (1 << n) - 1);
      x.draw(0, 0, 0, 0);
      due("one is as drawn", x.rings(0, 0), 0);
    }
    TheOtherRoom x = with(SIX);
    int[] to = {10, 6, 8, 2, 4, 0};
    for (int i = 0; i < 6; i++) x.draw(0, 0, i, to[i]);
    due("three RINGS: 0 and 5, 1 and 3, 2 and 4", x.rings(0, 0), 63);
    x.draw(0, 0, 5, 2);
    due("two wait for a RING, in the end", x.rings(0, 0), 30);
  }

  static void p34() {
    promise(34, "A bound: THINGS not as drawn, and 1 more, if there is a RING. BAD.");
    drawingEdges((x, f, d) -> x.bound(f, d));
    quiet("two, no RING", 2, x -> x.bound(0, 0));
    quiet("none", 0, x -> x.bound(0, 1));
    quiet("nothing is told", 0, x -> x.bound(0, 2));
    quiet("no THINGS", 0, x -> x.bound(1, 0));
    TheOtherRoom x = with(SIX);
    for (int i = 0; i < 5; i++) due("no RING", x.draw(0, 0, i, 2 * i + 2) * 10 + x.bound(0, 0), 11 + i);
    x.draw(0, 0, 5, 12);
    due("six, no RING", x.bound(0, 0), 6);
    x.draw(0, 0, 5, 0);
    due("six in a RING", x.bound(0, 0), 7);
    int[] to = {2, 0, 6, 4, 10, 8};
    for (int i = 0; i < 6; i++) x.draw(0, 0, i, to[i]);
    due("three RINGS are 1 more", x.bound(0, 0), 7);
  }

  // ---- SEARCHES

  /** BAD, and STUCK if it is SPENT: of calls that ask a SEARCH for a DRAWING. */
  static void searchRefused(OfDrawing c) {
    drawingEdges(c);
    Sentences.refused(PromiseBoundaries::spent, STUCK, "SPENT", x -> c.on(x, 0, 0));
    for (int d : new int[] {-1, 4}) Sentences.ahead(PromiseBoundaries::spent, BAD, STUCK, "DRAWING " + d, x -> c.on(x, 0, d));
    for (int f : new int[] {-1, 1}) Sentences.ahead(PromiseBoundaries::spent, BAD, STUCK, "FLAT " + f, x -> c.on(x, f, 0));
  }

  /** 1 is in the way of 0, and both are drawn: FEWEST is 3, or there is none while 4 is a wall. */
  static TheOtherRoom bend() {
    TheOtherRoom x = with(BEND);
    x.draw(0, 0, 0, 6);
    x.draw(0, 1, 0, 6);
    x.draw(0, 1, 1, 0);
    x.draw(0, 2, 0, 8);
    return x;
  }

  static void quietBend(String what, long answer, Sentences.Call c) {
    Sentences.quiet(PromiseBoundaries::bend, what, answer, c);
  }

  static void p35() {
    promise(35, "FEWEST; NONE: there is none. BAD; STUCK: SPENT.");
    searchRefused((x, f, d) -> x.fewest(f, d));
    quiet("as drawn", 0, x -> x.fewest(0, 1));
    quiet("nothing is told", 0, x -> x.fewest(0, 2));
    quiet("no THINGS", 0, x -> x.fewest(1, 0));
    quiet("two on one CELL", NONE, x -> x.fewest(0, 0));
    quietBend("two", 2, x -> x.fewest(0, 0));
    quietBend("change places", NONE, x -> x.fewest(0, 1));
    quietBend("a wall", NONE, x -> x.fewest(0, 2));
    Sentences.quiet(PromiseBoundaries::spent, "not this one", 1, x -> x.fewest(0, 1));
  }

  static void p36() {
    promise(36, "LEAST; NONE. BAD; STUCK likewise.");
    searchRefused((x, f, d) -> x.least(f, d));
    quiet("as drawn", 0, x -> x.least(0, 1));
    quiet("nothing is told", 0, x -> x.least(0, 2));
    quiet("no THINGS", 0, x -> x.least(1, 0));
    quiet("two on one CELL", NONE, x -> x.least(0, 0));
    quietBend("two", 2, x -> x.least(0, 0));
    quietBend("change places", NONE, x -> x.least(0, 1));
    Sentences.quiet(PromiseBoundaries::spent, "not this one", 12, x -> x.least(0, 1));
  }

  static void p37() {
    promise(37, "NONE: there is none, nothing is to be done. BAD; STUCK likewise.");
    searchRefused((x, f, d) -> x.first(f, d));
    quiet("as drawn", NONE, x -> x.first(0, 1));
    quiet("nothing is told", NONE, x -> x.first(0, 2));
    quiet("no THINGS", NONE, x -> x.first(1, 0));
    quiet("two on one CELL", NONE, x -> x.first(0, 0));
    quietBend("the one that is in the way", 1012, x -> x.first(0, 0));
    quietBend("change places", NONE, x -> x.first(0, 1));
    Sentences.quiet(PromiseBoundaries::spent, "not this one", 2126, x -> x.first(0, 1));
    Sentences.Maker last = () -> {
      TheOtherRoom x = with(SIX);
      x.alter(0, 1, 1);
      x.draw(0, 0, 5, 200);
      x.draw(0, 1, 0, 200);
      x.alter(0, 2, 8);
      return x;
    };
    Sentences.quiet(last, "the last THING to the LANDING", 5200, x -> x.first(0, 0));
    Sentences.quiet(last, "the first THING to the LANDING", 200, x -> x.first(0, 1));
  }

  static void p38() {
    promise(38, "How many STATES the layers had that were looked at. BAD; STUCK likewise.");
    searchRefused((x, f, d) -> x.states(f, d));
    quiet("layer 0", 1, x -> x.states(0, 1));
    quiet("nothing is told", 1, x -> x.states(0, 2));
    quiet("no THINGS", 1, x -> x.states(1, 0));
    Sentences.Maker stuck = () -> {
      TheOtherRoom x = with("board 2 by 2;thing 1 by 1 at 0;wall 1;wall 2");
      x.draw(0, 0, 0, 6);
      return x;
    };
    Sentences.quiet(stuck, "layer 1 has none", 1, x -> x.states(0, 0));
    Sentences.Maker one = () -> {
      TheOtherRoom x = with("board 8 by 8;thing 1 by 1 at 0");
      x.draw(0, 0, 0, 126);
      x.draw(0, 1, 0, 126);
      x.wall(0, 63, true);
      return x;
    };
    Sentences.quiet(one, "layers 0, 1 and 2: 1, 62 and none", 63, x -> x.states(0, 0));
  }

  static void p39() {
    promise(39, "The DRAWING (0 to 3) of the least FEWEST, of several of the least LEAST, then the first, of those by which something is told;");
    quiet("as drawn", 1, x -> x.either(0));
    for (int best = 0; best < 4; best++) {
      TheOtherRoom x = with("board 4 by 2;thing 1 by 1 at 0;thing 1 by 1 at 7");
      for (int d = 0; d < 4; d++) x.draw(0, d, 0, 4);
      due("all are the same: the first", x.either(0), 0);
      x.draw(0, best, 0, 2);
      due("the least LEAST", x.either(0), best);
      x.draw(0, 3 - best, 0, 0);
      due("the least FEWEST", x.either(0), 3 - best);
      x.draw(0, 3 - best, 0, NONE);
      due("not one by which nothing is told", x.either(0), best);
      for (int d = 0; d < 4; d++) if (d != best) x.draw(0, d, 0, NONE);
      due("the only one", x.either(0), best);
      x.draw(0, best, 0, NONE);
      x.draw(0, best, 1, 14);
      due("told by the last THING", x.either(0), best);
    }
    sentence("NONE: none can be. BAD; STUCK: SPENT for one.");
    flatEdges((x, f) -> x.either(f));
    quiet("nothing is told", NONE, x -> x.either(1));
    Sentences.quiet(() -> { TheOtherRoom x = room(); for (int t = 0; t < 4; t++) x.draw(0, 1, t, NONE); return x; },
        "the only one can't be", NONE, x -> x.either(0));
    Sentences.refused(PromiseBoundaries::spent, STUCK, "SPENT for the first of two", x -> x.either(0));
    Sentences.Maker last = () -> {
      TheOtherRoom x = spent();
      for (int t = 0; t < 6; t++) x.draw(0, 3, t, x.drawn(0, 0, t));
      x.take(0, 0);
      return x;
    };
    Sentences.refused(last, STUCK, "SPENT for the last, the first is as drawn", x -> x.either(0));
    for (int f : new int[] {-1, 1}) Sentences.ahead(PromiseBoundaries::spent, BAD, STUCK, "FLAT " + f, x -> x.either(f));
  }

  static void p40() {
    promise(40, "FEWEST would be least; of several the first; NONE: without none there is any. BAD; STUCK: SPENT for one, no THINGS.");
    drawingEdges((x, f, d) -> x.shelf(f, d));
    refused(STUCK, "no THINGS", x -> x.shelf(1, 0));
    ahead(BAD, STUCK, "no THINGS, DRAWING 4", x -> x.shelf(1, 4));
    ahead(BAD, STUCK, "no THINGS, DRAWING -1", x -> x.shelf(1, -1));
    Sentences.refused(PromiseBoundaries::spent, STUCK, "SPENT without 2, 3, 4 or 5", x -> x.shelf(0, 0));
    Sentences.quiet(PromiseBoundaries::spent, "FOUND without any", 2, x -> x.shelf(0, 1));
    Sentences.ahead(PromiseBoundaries::spent, BAD, STUCK, "DRAWING 4", x -> x.shelf(0, 4));
    quiet("all are the same", 0, x -> x.shelf(0, 1));
    Sentences.quiet(() -> {
      TheOtherRoom x = with("board 8 by 8;thing 1 by 1 at 0;thing 1 by 1 at 1");
      x.draw(0, 0, 0, 126);
      x.draw(0, 0, 1, 124);
      due("SPENT with all", x.fewest(0, 0), STUCK);
      return x;
    }, "SPENT for none without one", 0, x -> x.shelf(0, 0));
    Sentences.quiet(() -> { TheOtherRoom x = with("board 2 by 2;thing 1 by 1 at 0"); x.draw(0, 0, 0, 6); return x; },
        "the only one", 0, x -> x.shelf(0, 0));
    for (int away = 0; away < 3; away++) {
      int thing = away;
      Sentences.quiet(() -> { TheOtherRoom x = with(BEND); x.draw(0, 0, thing, 8); return x; },
          "what is drawn of it is gone, too", thing, x -> x.shelf(0, 0));
    }
    Sentences.quiet(() -> { TheOtherRoom x = with(BEND); for (int t = 0; t < 3; t++) x.draw(0, 0, t, 8); return x; },
        "without none there is any", NONE, x -> x.shelf(0, 0));
  }

  static void p41() {
    promise(41, "The fewest THINGS not as drawn in STATES of layers 0 to k (0 to 3). BAD; STUCK: SPENT.");
    drawingEdges((x, f, d) -> x.near(f, d, 1));
    edges("k", 0, 3, (x, k) -> x.near(0, 0, k));
    Sentences.Maker spent = PromiseBoundaries::spent;
    Sentences.quiet(spent, "k 0", 2, x -> x.near(0, 0, 0));
    Sentences.quiet(spent, "k 1", 1, x -> x.near(0, 0, 1));
    for (int k = 2; k <= 3; k++) {
      int layers = k;
      Sentences.refused(spent, STUCK, "k " + k, x -> x.near(0, 0, layers));
      Sentences.ahead(spent, BAD, STUCK, "DRAWING 4", x -> x.near(0, 4, layers));
      Sentences.ahead(spent, BAD, STUCK, "FLAT 1", x -> x.near(1, 0, layers));
    }
    Sentences.ahead(spent, BAD, STUCK, "k 4", x -> x.near(0, 0, 4));
    Sentences.ahead(spent, BAD, STUCK, "k -1", x -> x.near(0, 0, -1));
    int[] near = {3, 2, 1, 0};
    for (int k = 0; k <= 3; k++) {
      int layers = k;
      quiet("as drawn", 0, x -> x.near(0, 1, layers));
      quiet("no THINGS", 0, x -> x.near(1, 0, layers));
      Sentences.quiet(() -> {
        TheOtherRoom x = with("board 3 by 2;thing 1 by 1 at 0;thing 1 by 1 at 1;thing 1 by 1 at 2");
        for (int t = 0; t < 3; t++) x.draw(0, 0, t, 2 * t + 6);
        return x;
      }, "three to carry, k " + k, near[k], x -> x.near(0, 0, layers));
    }
    Sentences.quiet(() -> {
      TheOtherRoom x = with(SIX);
      for (int t = 0; t < 6; t++) x.draw(0, 0, t, 126);
      return x;
    }, "all six", 6, x -> x.near(0, 0, 0));
  }

  // 0 # .   THINGS 0 and 1 are shut in at the left
  // 1 # .
  static TheOtherRoom shut(int told0, int told1) {
    TheOtherRoom x = with("board 3 by 2;wall 1;wall 4;thing 1 by 1 at 0;thing 1 by 1 at 3");
    x.draw(0, 0, 0, told0);
    x.draw(0, 0, 1, told1);
    return x;
  }

  /** Shut in at the left; without CELL 2, a wall, there is so much room that it is SPENT by layer 2. */
  static TheOtherRoom shutIn(int told0, int told1) {
    TheOtherRoom x = with("board 8 by 8;thing 1 by 1 at 0;thing 1 by 1 at 1;thing 1 by 1 at 8");
    for (int y = 0; y < 8; y++) x.wall(0, 8 * y + 2, true);
    for (int c = 16; c < 64; c++) if (c % 8 < 2) x.wall(0, c, true);
    x.draw(0, 0, 0, told0);
    x.draw(0, 0, 1, told1);
    return x;
  }

  static void p42() {
    promise(42, "The first CELL that is a wall without which FEWEST would be less (or there would be one); NONE.");
    quiet("nothing is to be done", NONE, x -> x.more(0, 1));
    quiet("no THINGS", NONE, x -> x.more(1, 0));
    Sentences.quiet(() -> with("board 2 by 2;thing 1 by 1 at 0"), "no walls", NONE, x -> x.more(0, 0));
    Sentences.quiet(() -> shut(4, NONE), "there would be one, by CELL 1", 1, x -> x.more(0, 0));
    Sentences.quiet(() -> shut(6, NONE), "there would be one, by CELL 4 alone", 4, x -> x.more(0, 0));
    Sentences.quiet(() -> shut(NONE, 8), "drawn on the last wall", 4, x -> x.more(0, 0));
    Sentences.quiet(() -> { TheOtherRoom x = shut(2, NONE); x.wall(0, 1, false); return x; },
        "FEWEST is 1 already", NONE, x -> x.more(0, 0));
    Sentences.Maker far = () -> { TheOtherRoom x = with("board 2 by 2;wall 3;thing 1 by 1 at 0"); x.draw(0, 0, 0, 6); return x; };
    Sentences.quiet(far, "the last CELL", 3, x -> x.more(0, 0));
    Sentences.quiet(() -> {
      TheOtherRoom x = with("board 3 by 2;wall 0;wall 3;thing 1 by 1 at 1;thing 1 by 1 at 2");
      x.draw(0, 0, 1, 2);
      return x;
    }, "two CARRIES with and without", NONE, x -> x.more(0, 0));
    // 0 1 .
    // # . .
    Sentences.Maker less = () -> {
      TheOtherRoom x = with("board 3 by 2;wall 3;thing 1 by 1 at 0;thing 1 by 1 at 1");
      x.draw(0, 0, 0, 4);
      return x;
    };
    Sentences.quiet(less, "FEWEST is 2, and would be 1", 3, x -> x.more(0, 0));
    Sentences.quiet(less, "FEWEST is 2", 2, x -> x.fewest(0, 0));
    Sentences.quiet(() -> { TheOtherRoom x = less.make(); x.wall(0, 4, true); x.wall(0, 5, true); return x; },
        "there is none, and would be by the second wall alone", 4, x -> x.more(0, 0));
    Sentences.quiet(() -> { TheOtherRoom x = with("board 2 by 2;wall 0;thing 1 by 1 at 1"); x.draw(0, 0, 0, 0); return x; },
        "the first CELL", 0, x -> x.more(0, 0));
    sentence("BAD; STUCK: SPENT now, or for one that is looked at (in order, till the first).");
    searchRefused((x, f, d) -> x.more(f, d));
    Sentences.refused(() -> shutIn(2, 0), STUCK, "SPENT without the first", x -> x.more(0, 0));
    Sentences.refused(() -> shutIn(NONE, 20), STUCK, "SPENT ahead of the one", x -> x.more(0, 0));
    Sentences.quiet(() -> shutIn(NONE, 4), "the first is the one", 2, x -> x.more(0, 0));
    Sentences.ahead(() -> shutIn(2, 0), BAD, STUCK, "DRAWING 4", x -> x.more(0, 4));
  }

  static void p43() {
    promise(43, "How many PARTS. BAD.");
    flatEdges((x, f) -> x.parts(f));
    quiet("one", 1, x -> x.parts(0));
    quiet("no THINGS", 1, x -> x.parts(1));
    TheOtherRoom x = with("board 8 by 8", "board 2 by 2;wall 0;wall 1;wall 2;wall 3", "board 2 by 2;thing 2 by 2 at 0 fixed",
        "board 3 by 3;thing 1 by 3 at 1 fixed");
    due("64 CELLS", x.parts(0), 1);
    due("no FLOOR", x.parts(1), 0);
    due("all is covered by a fixed one", x.parts(2), 0);
    due("parted by a fixed one", x.parts(3), 2);
    for (int c = 0; c < 64; c++) if ((c / 8 + c % 8) % 2 == 1) x.wall(0, c, true);
    due("corners don't hang together", x.parts(0), 32);
    for (int c = 0; c < 63; c++) x.wall(0, c, true);
    due("the last CELL", x.parts(0) + x.wall(0, 63, false), 2 - 1);
    int[][] shapes = {{0, 3, 4, 5, 2}, {1, 4, 3}, {0, 1, 2, 5}, {2, 5, 4, 3}, {0, 3, 4, 1, 2, 5}};
    for (int[] shape : shapes) {
      TheOtherRoom y = with("board 3 by 2");
      for (int c = 0; c < 6; c++) y.wall(0, c, true);
      for (int c : shape) y.wall(0, c, false);
      due("a part that goes up, down, left and right", y.parts(0), 1);
    }
    for (int c = 0; c < 64; c++) x.wall(0, c, c > 7 && c % 8 != 7 && c != 60);
    due("the first row and the last column, and a CELL apart from them", x.parts(0), 2);
    for (int c = 0; c < 64; c++) x.wall(0, c, c != 7 && c != 8);
    due("a row's end and the next one's start don't", x.parts(0), 2);
  }

  static void p44() {
    promise(44, "of one that is fixed or too heavy just these). No such one: 0, nothing is refused.");
    quietEdges("FLAT", 0, 0, 0, (x, f) -> x.ever(f, 0));
    quietEdges("THING", 0, 3, 0, (x, t) -> x.ever(0, t));
    quiet("all but where a fixed one is", 0x6FF, x -> x.ever(0, 0));
    quiet("all but where a fixed one is", 0x6FF, x -> x.ever(0, 1));
    quiet("fixed", 0x100, x -> x.ever(0, 2));
    quiet("too heavy", 0x10, x -> x.ever(0, 3));
    TheOtherRoom x = room();
    x.alter(0, 0, 3);
    due("hands enough", x.ever(0, 3), 0x6FF);
    x.put(0, 3, 200);
    due("hands enough, from the LANDING", x.ever(0, 3), 0x6FF);
    x.alter(0, 0, 2);
    due("too heavy, on the LANDING", x.ever(0, 3), 0);
    x.put(0, 3, 8);
    x.put(0, 2, 200);
    due("a fixed one on the LANDING", x.ever(0, 2), 0);
    due("the LANDING is full with it", x.ever(0, 1), 0x7FF);
    TheOtherRoom y = with("board 2 by 2;thing 2 by 2 at 0", "board 8 by 8;thing 1 by 1 at 63", "board 2 by 2;thing 1 by 1 at 0;"
        + "landing 1 door 3;wall 3");
    due("no STEP can be", y.ever(0, 0), 15);
    due("64 CELLS", y.ever(1, 0), -1);
    y.put(2, 0, 200);
    due("the DOOR is a wall", y.ever(2, 0), 0);
  }

  /** A SEARCH of which so many STEPS were made. */
  static Sentences.Maker begun(int steps, Sentences.Maker m) {
    return () -> {
      TheOtherRoom x = m.make();
      x.image();
      x.begin(0, 0);
      for (int i = 0; i < steps; i++) x.step();
      return x;
    };
  }

  /** One CELL is free, and what is drawn can't be by six CARRIES. */
  static TheOtherRoom puzzle() {
    TheOtherRoom x = with("board 3 by 2;thing 1 by 1 at 0;thing 1 by 1 at 1;thing 1 by 1 at 2;thing 1 by 1 at 3;thing 1 by 1 at 4");
    x.draw(0, 0, 0, 2);
    x.draw(0, 0, 1, 0);
    return x;
  }

  static final Sentences.Maker AS_DRAWN = begun(0, () -> with(BEND)), FOUND = begun(2, PromiseBoundaries::bend),
      ENDED = begun(1, () -> shut(4, 0)), ENDED_BY_6 = begun(6, PromiseBoundaries::puzzle),
      GOES_ON = begun(5, PromiseBoundaries::puzzle), SPENT = begun(2, PromiseBoundaries::spent),
      GIVEN_UP = () -> { TheOtherRoom x = room(); x.back(); return x; };

  static void p45() {
    promise(45, "(another one is given up): 1 if layer 0 is AS DRAWN, 0. BAD.");
    drawingEdges((x, f, d) -> x.begin(f, d));
    for (Sentences.Maker m : new Sentences.Maker[] {AS_DRAWN, FOUND, ENDED, ENDED_BY_6, GOES_ON, SPENT, GIVEN_UP, TheOtherRoom::new}) {
      Sentences.refused(m, BAD, "FLAT", x -> x.begin(4, 0));
      Sentences.refused(m, BAD, "DRAWING", x -> x.begin(0, 4));
    }
    int[] begun = {0, 1, 1, 1};
    for (int d = 0; d < 4; d++) {
      TheOtherRoom x = room();
      due("DRAWING " + d, x.begin(0, d), begun[d]);
      due("FLAT 0 and that", x.search(0) * 10 + x.search(1), d);
      due("layer 0, 1 STATE", x.search(2) * 10 + x.search(3), 1);
      due("FOUND or not", x.search(4), begun[d]);
      due("of FLAT 1", x.begin(1, d), 1);
      due("FLAT 1 and that", x.search(0) * 10 + x.search(1), 10 + d);
    }
  }

  static void p46() {
    promise(46, "One layer more of it: how many STATES that has (1001, if it is SPENT by that).");
    due("none", begun(0, () -> shut(4, 0)).make().step(), 0);
    due("layer 6", GOES_ON.make().step(), 10);
    due("SPENT", begun(1, PromiseBoundaries::spent).make().step(), 1001);
    String[][] kinds = {{" fixed", "", " heavy 3", " plain"}, {" plain", " turned plain", " turned", " turned plain"}};
    int[][] layers = {{0, 4, 0, 2}, {3, 2, 5, 2}};
    for (int l = 0; l < 2; l++) {
      // one object has them all, and a SEARCH of each, one after the other
      TheOtherRoom x = new TheOtherRoom();
      for (int f = 0; f < 4; f++) {
        Sentences.flat(x, "board 3 by 2;landing " + l + " door 0;wall 5;thing 2 by 1 at 0" + kinds[l][f]);
        if (l == 1) x.put(f, 0, 200);
        x.draw(f, 0, 0, 8);
        x.begin(f, 0);
        due("layer 1 of one" + kinds[l][f] + (l == 1 ? " on the LANDING" : ""), x.step(), layers[l][f]);
      }
    }
    sentence("STUCK: none is under way, it is FOUND, at its end, SPENT.");
    Sentences.refused(TheOtherRoom::new, STUCK, "none is under way", x -> x.step());
    Sentences.refused(GIVEN_UP, STUCK, "none is under way any more", x -> x.step());
    Sentences.refused(AS_DRAWN, STUCK, "FOUND in layer 0", x -> x.step());
    Sentences.refused(FOUND, STUCK, "FOUND in layer 2", x -> x.step());
    Sentences.refused(ENDED, STUCK, "a layer had none", x -> x.step());
    Sentences.refused(ENDED_BY_6, STUCK, "behind layer 6", x -> x.step());
    Sentences.refused(SPENT, STUCK, "SPENT", x -> x.step());
  }

  static void p47() {
    promise(47, "FLAT (0), DRAWING (1), layer (2), STATES in all (3; when SPENT 1001), 0 it goes on, 1 FOUND, 2 there is none, 3 SPENT (4), LEAST (5; NONE: not FOUND).");
    Sentences.Maker[] all = {AS_DRAWN, FOUND, ENDED, ENDED_BY_6, GOES_ON, SPENT, begun(1, PromiseBoundaries::bend)};
    int[][] told = {{0, 0, 0, 1, 1, 0}, {0, 0, 2, 51, 1, 2}, {0, 0, 1, 1, 2, NONE}, {0, 0, 6, 34, 2, NONE}, {0, 0, 5, 24, 0, NONE},
      {0, 0, 2, 1001, 3, NONE}, {0, 0, 1, 11, 0, NONE}};
    for (int i = 0; i < all.length; i++)
      for (int k = 0; k <= 5; k++) {
        int what = k;
        Sentences.quiet(all[i], "SEARCH " + i + " what " + k, told[i][k], x -> x.search(what));
      }
    sentence("BAD; STUCK: none is under way.");
    edges("what", 0, 5, (x, what) -> x.search(what));
    for (int i = 0; i <= 5; i++) {
      int what = i;
      Sentences.refused(TheOtherRoom::new, STUCK, "what " + i, x -> x.search(what));
      Sentences.refused(GIVEN_UP, STUCK, "what " + i, x -> x.search(what));
    }
    for (int i : new int[] {-1, 6, Integer.MIN_VALUE, Integer.MAX_VALUE})
      Sentences.ahead(GIVEN_UP, BAD, STUCK, "what " + i, x -> x.search(i));
  }

  // ---- what is kept

  /** All of a FLAT becomes another one, and so does all that isn't kept. */
  static void meddle(TheOtherRoom x) {
    x.carry(0, 1, 10);
    x.put(0, 2, 12);
    x.wall(0, 11, false);
    x.wall(0, 9, true);
    x.alter(0, 0, 1);
    x.alter(0, 1, 3);
    x.alter(0, 2, 0);
    x.draw(0, 0, 3, 200);
    for (int d = 1; d < 4; d++) x.take(0, d);
  }

  static void p48() {
    promise(48, "All is kept, but THE TAPE, SHELVES, the SEARCH under way and status(): 1.");
    TheOtherRoom x = room();
    due("image", x.image(), 1);
    due("the SEARCH is under way still", x.search(3), 1);
    due("THE TAPE is as it was", x.status(1), 12);
    x.feed('x', 1);
    x.move(7, 1, 0, 0);
    x.row(0, 0, 0);
    meddle(x);
    int bad = x.status(12) + 1;
    due("BAD", x.row(8, 0, 0), BAD);
    due("back", x.back(), 1);
    due("THE TAPE isn't kept", x.status(1), 13);
    due("SHELVES aren't kept", x.holds(7) * 100 + x.holds(0), 1100);
    due("status() isn't kept", x.status(12), bad);
    due("nor a SEARCH", x.search(0), STUCK);
    TheOtherRoom none = new TheOtherRoom();
    due("of no FLATS", none.image(), 1);
    for (int i = 0; i < 4; i++) due("a FLAT", Sentences.flat(none, "board 2 by 2"), i);
    due("of none", none.back() * 10 + none.status(0), 10);
    due("its number is 0 again", Sentences.flat(none, "board 3 by 3") * 10 + none.flatOf(0, 0), 3);
    due("its CARRIES are counted anew", none.flatOf(0, 6) + none.flatOf(0, 7), 0);
    none.back();
    Sentences.flat(none, "board 2 by 2;thing 1 by 1 at 0");
    none.carry(0, 0, 6);
    none.back();
    Sentences.flat(none, "board 2 by 2;thing 1 by 1 at 3");
    due("its CARRIES are counted anew", none.flatOf(0, 6) * 10 + none.flatOf(0, 7), 0);
    due("it STANDS as it is told", none.thingOf(0, 0, 5), 6);
    TheOtherRoom four = with("board 2 by 2", "board 2 by 3", "board 2 by 4", "board 2 by 5;thing 1 by 1 at 0");
    due("of four", four.image(), 1);
    four.carry(3, 0, 18);
    due("back", four.back() * 10 + four.status(0), 14);
    due("the last one", four.flatOf(3, 1) * 10 + four.thingOf(3, 0, 5), 50);
    due("FULL as it was", Sentences.flat(four, "board 2 by 2"), FULL);
    TheOtherRoom twice = room();
    twice.put(0, 1, 4);
    twice.image();
    twice.put(0, 1, 10);
    twice.image();
    twice.put(0, 1, 12);
    twice.back();
    due("the later one counts", twice.thingOf(0, 1, 5), 10);
  }

  static void p49() {
    promise(49, "All is again as it was kept (no SEARCH is under way then): 1. STUCK: nothing was.");
    Sentences.refused(TheOtherRoom::new, STUCK, "a new object", x -> x.back());
    Sentences.refused(() -> shut(4, 0), STUCK, "nothing was", x -> x.back());
    Sentences.refused(() -> { TheOtherRoom x = shut(4, 0); x.begin(0, 0); return x; }, STUCK, "the SEARCH stays", x -> x.back());
    TheOtherRoom x = room(), y = room();
    x.image();
    for (int i = 0; i < 2; i++) {
      meddle(x);
      due("back", x.back(), 1);
      due("no SEARCH", x.step(), STUCK);
    }
    y.image();
    y.back();
    Sentences.alike("again, and again", x, y);
    TheOtherRoom more = room();
    more.wipe();
    due("one FLAT more", Sentences.flat(more, "board 2 by 2"), 2);
    more.begin(2, 0);
    due("back", more.back(), 1);
    due("that is gone", more.status(0) * 10 + more.flatOf(2, 0), 20 + BAD);
    due("and so is its SEARCH", more.search(0), STUCK);
  }

  static void p50() {
    promise(50, "FLATS (0), THE TAPE's size (1), SHELVES that hold something (2); 12 to 16: REFUSALS -2 to -6. NONE another what.");
    int[] told = {2, 12, 4};
    for (int i = 0; i <= 2; i++) {
      int what = i;
      quiet("what " + i, told[i], x -> x.status(what));
    }
    for (int i : new int[] {-1, 3, 4, 11, 17, 18, -12, -16, 256, 268, 12 - 256, Integer.MIN_VALUE, Integer.MIN_VALUE + 12, Integer.MAX_VALUE})
      quiet("another what: " + i, NONE, x -> x.status(i));
    for (int i = 0; i < 5; i++) due("none at first", new TheOtherRoom().status(12 + i), 0);
    TheOtherRoom x = full();
    for (int i = 1; i <= 3; i++) {
      x.row(-1, 0, 0);
      x.set(0, 0, 0);
      x.step();
      x.flat();
      due("BAD", x.status(12), i);
      due("NOTHING", x.status(14), i);
      due("STUCK", x.status(15), i);
      due("FULL", x.status(16), i);
      due("OTHER", x.status(13), 0);
    }
    x.move(0, 1, 0, 0);
    x.set(0, 0, 0);
    due("OTHER", x.status(13), 1);
    due("four FLATS", x.status(0), 4);
    TheOtherRoom many = new TheOtherRoom();
    for (int s = 0; s < 8; s++) due("SHELVES", many.row(s, 0, 0) * 10 + many.status(2), 11 + s);
    for (int i = 1; i <= 50; i++) due("THE TAPE's size", many.feed(0, 4) * 1000 + many.status(1), 4004 * i);
  }

  public static void main(String[] args) {
    p1(); p2(); p3(); p4(); p5(); p6(); p7(); p8(); p9(); p10();
    p11(); p12(); p13(); p14(); p15(); p16(); p17(); p18(); p19(); p20();
    p21(); p22(); p23(); p24(); p25(); p26(); p27(); p28(); p29(); p30();
    p31(); p32(); p33(); p34(); p35(); p36(); p37(); p38(); p39(); p40();
    p41(); p42(); p43(); p44(); p45(); p46(); p47(); p48(); p49(); p50();
    Sentences.allPromises();
    Sentences.end("PromiseBoundaries");
  }
}
