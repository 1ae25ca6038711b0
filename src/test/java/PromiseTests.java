import java.nio.charset.StandardCharsets;

/** For each promise of the document: ordinary calls, the edges it names, wrong calls in the order of its REFUSALS. */
public final class PromiseTests {
  static final int NONE = TheOtherRoom.NONE, BAD = -2, OTHER = -3, NOTHING = -4, STUCK = -5, FULL = -6;
  static final int[] NO_FLATS = {-1, 1, 4, Integer.MIN_VALUE, Integer.MAX_VALUE};
  static int wrong = 0, right = 0, promise = 0;

  static void due(String what, long got, long want) {
    if (got == want) { right++; return; }
    wrong++;
    System.out.println("promise " + promise + ": " + what + " answered " + got + ", due is " + want);
  }

  /** How often a REFUSAL was answered. */
  static int refused(TheOtherRoom x, int which) { return x.status(10 - which); }

  static void feed(TheOtherRoom x, String text) {
    for (byte b : text.getBytes(StandardCharsets.ISO_8859_1)) x.feed(b, 1);
  }

  static int flat(TheOtherRoom x, String text) {
    feed(x, text);
    return x.flat();
  }

  static TheOtherRoom with(String text) {
    TheOtherRoom x = new TheOtherRoom();
    due("flat(" + text + ")", flat(x, text), 0);
    return x;
  }

  // 0 0 . .
  // . . 1 .
  // . . . #   the door is 3, one may be on the LANDING
  static final String SMALL = "board 4 by 3;thing 2 by 1 at 0;thing 1 by 1 at 6;wall 11;landing 1 door 3";
  // 6 THINGS on 64 CELLS: more than 1,000 STATES in two layers
  static final String WIDE = "board 8 by 8;thing 1 by 1 at 0;thing 1 by 1 at 1;thing 1 by 1 at 2;thing 1 by 1 at 3;"
      + "thing 1 by 1 at 4;thing 1 by 1 at 5";
  // 0 . .
  // 1 # .
  // . . 2   two drawn to change places with one another
  static final String SWAP = "board 3 by 3;thing 1 by 1 at 0;thing 1 by 1 at 3;thing 1 by 1 at 8;wall 4";

  // 0 1 2
  // 3 4 .   one CELL is free
  static final String ONE_FREE = "board 3 by 2;thing 1 by 1 at 0;thing 1 by 1 at 1;thing 1 by 1 at 2;thing 1 by 1 at 3;"
      + "thing 1 by 1 at 4";

  static void p1() {
    TheOtherRoom x = new TheOtherRoom();
    due("status(0)", x.status(0), 0);
    due("status(1)", x.status(1), 0);
    due("status(2)", x.status(2), 0);
    for (int i = 12; i <= 16; i++) due("status(" + i + ")", x.status(i), 0);
    for (int s = 0; s < 8; s++) due("holds(" + s + ")", x.holds(s), NONE);
    due("wipe()", x.wipe(), 0);
    due("flatOf(0, 0)", x.flatOf(0, 0), BAD);
    due("step()", x.step(), STUCK);
    due("search(0)", x.search(0), STUCK);
    due("back()", x.back(), STUCK);
    due("NONE", TheOtherRoom.NONE, -1);
  }

  static void p2() {
    TheOtherRoom x = new TheOtherRoom();
    due("row(0, 0, 0)", x.row(0, 0, 0), 1);
    due("row(7, 4, 40)", x.row(7, 4, 40), 1);
    due("holds(0)", x.holds(0), 0);
    due("holds(7)", x.holds(7), 4);
    x.row(1, 3, 2);
    x.set(1, 1, 9);
    due("a new row over one", x.row(1, 3, 3), 1);
    due("its element", x.element(1, 1), 0);
    x.move(1, 1, 0, 0);
    due("a row over a MOVE", x.row(1, 2, 1), 1);
    due("holds(1)", x.holds(1), 2);
    int[][] bad = {{-1, 0, 0}, {8, 0, 0}, {0, -1, 0}, {0, 5, 0}, {0, 0, -1}, {0, 0, 41}, {Integer.MIN_VALUE, 0, 0}};
    for (int[] b : bad) due("row BAD", x.row(b[0], b[1], b[2]), BAD);
    due("BAD counted", refused(x, BAD), bad.length);
    due("nothing changed", x.holds(0), 0);
  }

  static void p3() {
    TheOtherRoom x = new TheOtherRoom();
    long v = 0x1_8000_80FFL;
    long[] kept = {-1, (short) 0x80FF, (int) v, v, 1};
    for (int sort = 0; sort <= 4; sort++) {
      x.row(sort, sort, 40);
      due("set", x.set(sort, 39, v), 1);
      due("sort " + sort, x.element(sort, 39), kept[sort]);
      due("beside it", x.element(sort, 38), 0);
    }
    x.set(4, 39, 0);
    due("not so", x.element(4, 39), 0);
    x.set(4, 39, 256);
    due("so, though its lowest byte is 0", x.element(4, 39), 1);
    x.set(0, 0, 200);
    due("a byte told", x.element(0, 0), -56);
    x.move(5, 1, 0, 0);
    due("BAD SHELF", x.set(-1, 99, 0), BAD);
    due("BAD SHELF", x.set(8, 99, 0), BAD);
    due("OTHER", x.set(5, 99, 0), OTHER);
    due("NOTHING", x.set(6, 99, 0), NOTHING);
    due("BAD i", x.set(0, 40, 0), BAD);
    due("BAD i", x.set(0, -1, 0), BAD);
    due("counts", refused(x, BAD) * 100 + refused(x, OTHER) * 10 + refused(x, NOTHING), 411);
  }

  static void p4() {
    TheOtherRoom x = new TheOtherRoom();
    x.row(0, 2, 5);
    x.row(1, 2, 3);
    x.row(2, 3, 3);
    x.move(3, 2, 0, 0);
    for (int i = 0; i < 5; i++) x.set(0, i, i + 1);
    due("copy", x.copy(0, 1, 3, 0, 2), 2);
    due("element", x.element(1, 0) * 100 + x.element(1, 1) * 10 + x.element(1, 2), 450);
    due("on itself, forth", x.copy(0, 0, 0, 1, 4), 4);
    due("as they were", x.element(0, 1) * 1000 + x.element(0, 2) * 100 + x.element(0, 3) * 10 + x.element(0, 4), 1234);
    due("on itself, back", x.copy(0, 0, 2, 0, 3), 3);
    due("as they were", x.element(0, 0) * 100 + x.element(0, 1) * 10 + x.element(0, 2), 234);
    due("none, at the end", x.copy(0, 1, 5, 3, 0), 0);
    due("BAD SHELVES", x.copy(-1, 3, 0, 0, 1), BAD);
    due("BAD SHELVES", x.copy(3, 8, 0, 0, 1), BAD);
    due("OTHER ahead of NOTHING", x.copy(3, 7, 0, 0, 1), OTHER);
    due("OTHER ahead of NOTHING", x.copy(7, 3, 0, 0, 1), OTHER);
    due("two SORTS", x.copy(0, 2, 9, 9, 9), OTHER);
    due("NOTHING", x.copy(0, 7, 9, 9, 9), NOTHING);
    due("NOTHING", x.copy(7, 0, 9, 9, 9), NOTHING);
    due("NOTHING on itself", x.copy(7, 7, 9, 9, 9), NOTHING);
    int[][] bad = {{-1, 0, 1}, {0, -1, 1}, {0, 0, -1}, {4, 0, 2}, {0, 2, 2}, {6, 0, 0}, {0, 4, 0}, {0, 0, 4},
      {Integer.MAX_VALUE, 0, 2}, {0, Integer.MAX_VALUE, 2}, {0, 0, Integer.MAX_VALUE}};
    for (int[] b : bad) due("copy BAD", x.copy(0, 1, b[0], b[1], b[2]), BAD);
    due("nothing changed", x.element(1, 0) * 100 + x.element(1, 1) * 10 + x.element(1, 2), 450);
  }

  static void p5() {
    TheOtherRoom x = new TheOtherRoom();
    x.row(0, 3, 2);
    x.set(0, 1, Long.MIN_VALUE);
    due("element", x.element(0, 1), Long.MIN_VALUE);
    x.row(0, 3, 1);
    x.move(1, 3, 1, 7);
    due("none any more", x.element(0, 1), 0);
    due("no ROW", x.element(1, 0) + x.element(2, 0) + x.element(-1, 0) + x.element(8, 0) + x.element(0, -1), 0);
    for (int i = 12; i <= 16; i++) due("nothing is refused", x.status(i), 0);
  }

  static void p6() {
    TheOtherRoom x = new TheOtherRoom();
    for (int i = 0; i <= 4; i++) { x.row(i, i, 0); due("holds", x.holds(i), i); }
    for (int i = 1; i <= 5; i++) { x.move(i, i, 0, 0); due("holds", x.holds(i), 10 + i); }
    due("nothing", x.holds(7), NONE);
    due("no SHELF", x.holds(8) + x.holds(-1), -2);
    due("nothing is refused", refused(x, BAD), 0);
  }

  static void p7() {
    TheOtherRoom x = new TheOtherRoom();
    int[][] good = {{0, 1, 0, 0}, {0, 1, 5, 3}, {7, 2, 0, -77}, {0, 3, 0, 0}, {0, 3, 0, 127}, {0, 3, 0, 200},
      {0, 4, 0, 9999}, {0, 5, 0, 0}, {0, 5, 0, 127}};
    for (int[] g : good) {
      due("move", x.move(g[0], g[1], g[2], g[3]), 1);
      due("holds", x.holds(g[0]), 10 + g[1]);
    }
    int[][] bad = {{-1, 1, 0, 0}, {8, 1, 0, 0}, {0, 0, 0, 0}, {0, 6, 0, 0}, {0, 1, -1, 0}, {0, 1, 6, 0}, {0, 1, 0, -1},
      {0, 1, 0, 4}, {0, 3, 0, -1}, {0, 3, 0, 128}, {0, 3, 0, 199}, {0, 3, 0, 201}, {0, 5, 0, 200}, {0, 5, 0, 128},
      {0, 5, 0, -1}};
    for (int[] b : bad) due("move BAD", x.move(b[0], b[1], b[2], b[3]), BAD);
    due("nothing changed", x.holds(0), 15);
    x.row(1, 0, 3);
    due("over a ROW", x.move(1, 2, 4, 0), 1);
    due("says(1, 0)", x.says(1, 0), 4);
  }

  static void p8() {
    TheOtherRoom x = new TheOtherRoom();
    x.move(1, 1, 5, 3);
    x.move(2, 2, 4, 77);
    x.move(3, 3, 3, 12);
    x.move(4, 4, 2, 77);
    x.move(5, 5, 1, 9);
    int[][] says = {
      {5, 3, OTHER, OTHER, OTHER, OTHER},
      {4, 4, 4, OTHER, OTHER, OTHER},
      {3, OTHER, OTHER, 12, OTHER, OTHER},
      {2, OTHER, OTHER, 200, 200, OTHER},
      {1, OTHER, OTHER, 9, OTHER, 9}};
    for (int s = 1; s <= 5; s++)
      for (int kind = 0; kind <= 5; kind++) due("says(" + s + ", " + kind + ")", x.says(s, kind), says[s - 1][kind]);
    x.row(6, 0, 1);
    due("BAD SHELF", x.says(8, 0), BAD);
    due("BAD SHELF", x.says(-1, 0), BAD);
    due("BAD KIND ahead of OTHER", x.says(6, 6), BAD);
    due("BAD KIND ahead of NOTHING", x.says(0, -1), BAD);
    due("OTHER", x.says(6, 0), OTHER);
    due("NOTHING", x.says(0, 5), NOTHING);
  }

  static int can(TheOtherRoom x, int kind, int thing, int told) {
    x.move(0, kind, thing, told);
    return x.can(0, 0);
  }

  static void p9() {
    TheOtherRoom x = with(SMALL + ";thing 1 by 1 at 4 fixed;thing 1 by 1 at 8 heavy 3");
    int[] slides = {1, 1, 1, 1};
    for (int d = 0; d < 4; d++) due("SLIDE " + d, can(x, 1, 1, d), slides[d]);
    due("off the board", can(x, 1, 0, 0), 0);
    due("west of column 0", can(x, 1, 0, 3), 0);
    due("east", can(x, 1, 0, 1), 1);
    due("a fixed one in the way", can(x, 1, 0, 2), 0);
    x.put(0, 1, 14);
    due("a wall in the way", can(x, 1, 1, 2), 0);
    due("no row behind column 3", can(x, 1, 1, 1), 0);
    x.put(0, 1, 12);
    due("a fixed one", can(x, 1, 2, 1), 0);
    due("too heavy", can(x, 1, 3, 1), 0);
    due("TURN in the way of a fixed one", can(x, 2, 0, 0), 0);
    x.put(0, 0, 2);
    due("TURN", can(x, 2, 0, 0), 1);
    x.put(0, 0, 3);
    due("TURN back", can(x, 2, 0, 0), 1);
    due("TURN of a square one", can(x, 2, 1, 0), 0);
    x.put(0, 0, 0);
    due("CARRY", can(x, 3, 0, 4), 2);
    due("CARRY where it STANDS", can(x, 3, 0, 0), 0);
    due("CARRY to the LANDING", can(x, 3, 0, 200), 3);
    due("CARRY to no SPOT of it", can(x, 3, 1, 13), 0);
    due("CARRY off the board", can(x, 3, 0, 6), 0);
    due("OUT away from the DOOR", can(x, 4, 0, 0), 0);
    x.put(0, 0, 4);
    due("OUT", can(x, 4, 0, 0), 1);
    due("IN, not from the LANDING", can(x, 5, 0, 4), 0);
    x.put(0, 1, 200);
    due("OUT, the LANDING is full", can(x, 4, 0, 0), 0);
    due("IN, one STANDS there", can(x, 5, 1, 6), 0);
    x.put(0, 0, 0);
    due("IN", can(x, 5, 1, 6), 1);
    due("IN beside the DOOR", can(x, 5, 1, 4), 0);
    due("SLIDE on the LANDING", can(x, 1, 1, 1), 0);
    due("TURN on the LANDING", can(x, 2, 1, 1), 0);
    due("OUT on the LANDING", can(x, 4, 1, 1), 0);
    due("CARRY on the LANDING", can(x, 3, 1, 200), 0);
    due("CARRY from the LANDING", can(x, 3, 1, 4), 2);
    due("a THING that isn't", can(x, 1, 5, 0), 0);
    x.move(1, 4, 1, 0);
    x.row(2, 2, 1);
    for (int f : NO_FLATS) due("BAD flat ahead of OTHER", x.can(f, 2), BAD);
    due("BAD SHELF", x.can(0, 8), BAD);
    due("BAD SHELF", x.can(0, -1), BAD);
    due("OTHER", x.can(0, 2), OTHER);
    due("NOTHING", x.can(0, 3), NOTHING);
    due("nothing moved", x.flatOf(0, 7), 0);
    plainOnes();
  }

  /** Plain ones never TURN, and come IN only as they were told. */
  static void plainOnes() {
    TheOtherRoom x = with("board 3 by 3;landing 2 door 4;thing 2 by 1 at 3 plain;thing 2 by 1 at 2 turned plain");
    due("no TURN of a plain one", can(x, 2, 0, 0), 0);
    x.put(0, 1, 200);
    x.put(0, 0, 200);
    due("IN as told", can(x, 5, 0, 8), 1);
    due("IN turned, told not turned", can(x, 5, 0, 9), 0);
    due("IN turned as told", can(x, 5, 1, 9), 1);
    due("IN not turned, told turned", can(x, 5, 1, 8), 0);
    due("CARRY from the LANDING", x.steps(0, 0, 9), NONE);
    due("CARRY from the LANDING", x.steps(0, 1, 8), NONE);
    due("put however", x.put(0, 0, 9), 1);
    due("a SLIDE as it STANDS", can(x, 1, 0, 1), 1);
    due("by way of the LANDING", x.steps(0, 0, 8), 2);
  }

  static int make(TheOtherRoom x, int kind, int thing, int told) {
    x.move(0, kind, thing, told);
    return x.make(0, 0);
  }

  static void p10() {
    TheOtherRoom x = with(SMALL);
    due("SLIDE", make(x, 1, 1, 0), 1);
    due("stands", x.thingOf(0, 1, 5), 4);
    due("SLIDE", make(x, 1, 1, 2), 1);
    due("SLIDE", make(x, 1, 1, 3), 1);
    due("stands", x.thingOf(0, 1, 5), 10);
    due("SLIDE", make(x, 1, 1, 1), 1);
    due("stands", x.thingOf(0, 1, 5), 12);
    due("TURN", make(x, 2, 0, 0), 1);
    due("stands", x.thingOf(0, 0, 5), 1);
    due("no CARRIES", x.flatOf(0, 6), 0);
    due("STEPS", x.flatOf(0, 7), 5);
    due("CARRY", make(x, 3, 1, 6), 2);
    due("CARRIES", x.flatOf(0, 6), 1);
    due("OUT", make(x, 4, 1, 0), 1);
    due("on the LANDING", x.flatOf(0, 8), 1);
    due("IN", make(x, 5, 1, 6), 1);
    due("stands", x.thingOf(0, 1, 5), 6);
    due("CARRIES: KIND 3 alone", x.flatOf(0, 6), 1);
    due("STEPS", x.flatOf(0, 7), 9);
    due("STUCK", make(x, 1, 1, 1), STUCK);
    due("STUCK", make(x, 3, 1, 6), STUCK);
    due("STUCK: no such THING", make(x, 1, 2, 1), STUCK);
    due("nothing changed", x.thingOf(0, 1, 5) * 100 + x.flatOf(0, 7), 609);
    x.row(2, 2, 1);
    for (int f : NO_FLATS) due("BAD flat ahead of OTHER", x.make(f, 2), BAD);
    due("BAD SHELF", x.make(0, 8), BAD);
    due("OTHER", x.make(0, 2), OTHER);
    due("NOTHING", x.make(0, 3), NOTHING);
    due("STUCK counted", refused(x, STUCK), 3);
  }

  static void p11() {
    TheOtherRoom x = new TheOtherRoom();
    due("feed(n 1)", x.feed(0x11223362, 1), 1);
    due("feed(n 3)", x.feed(0x776F6172, 3), 4);
    due("feed(n 2)", x.feed(0x77776420, 2), 6);
    due("feed(n 4)", x.feed(0x3220624F + 42, 4), 10);
    due("BAD", x.feed(0, 0), BAD);
    due("BAD", x.feed(0, 5), BAD);
    due("BAD", x.feed(0, -1), BAD);
    feed(x, " 2");
    due("its bytes, the highest first", x.flat(), 0);
    for (int i = 0; i < 49; i++) x.feed(0, 4);
    due("196", x.status(1), 196);
    due("up to 199", x.feed(0, 3), 199);
    due("FULL", x.feed(0, 2), FULL);
    due("BAD ahead of FULL", x.feed(0, 5), BAD);
    due("nothing changed", x.status(1), 199);
    due("200", x.feed(0, 1), 200);
    due("FULL", x.feed(0, 1), FULL);
    due("counted", refused(x, FULL), 2);
  }

  static void p12() {
    TheOtherRoom x = new TheOtherRoom();
    feed(x, "board");
    due("wipe()", x.wipe(), 5);
    due("wipe()", x.wipe(), 0);
    due("status(1)", x.status(1), 0);
    due("what comes then stands alone", flat(x, "board 2 by 2"), 0);
  }

  static void fault(String text, int place) {
    TheOtherRoom x = new TheOtherRoom();
    due("flat(" + text + ")", flat(x, text), -20 - place);
    due("BAD", refused(x, BAD), 1);
    due("THE TAPE", x.status(1), 0);
    due("FLATS", x.status(0), 0);
  }

  static void p13() {
    TheOtherRoom x = new TheOtherRoom();
    due("least", flat(x, "board2by2"), 0);
    due("blanks", flat(x, "  board  8 by 08 ;hands 3 ; hands 1; landing 2 door 63;landing 3door 5  "), 1);
    due("what is told later counts", x.flatOf(1, 3) * 100 + x.flatOf(1, 4) * 10 + x.flatOf(1, 5), 135);
    due("64 CELLS", x.floor(1, 0), -1L);
    due("all of a THING", flat(x, "board 3 by 3;thing 3 by 1 at 1turned heavy 3fixed plain;wall 0;wall 0"), 2);
    int[] told = {3, 1, 3, 1, 1, 3};
    for (int i = 0; i < 6; i++) due("thingOf", x.thingOf(2, 0, i), told[i]);
    due("at first", x.flatOf(2, 3) * 100 + x.flatOf(2, 4) * 10 + x.flatOf(2, 5), 200);
    due("6 THINGS", flat(x, WIDE), 3);
    feed(x, "board");
    due("FULL ahead of all", x.flat(), FULL);
    due("THE TAPE stays", x.status(1), 5);
    due("FLATS", x.status(0), 4);
    due("FULL counted", refused(x, FULL), 1);
    fault("", 0);
    fault("   ", 3);
    fault("Board 2 by 2", 0);
    fault("bord 2 by 2", 0);
    fault("boards 2 by 2", 0);
    fault("boardby 2 by 2", 0);
    fault("wall 3", 0);
    fault("board 2 by 2;wallz 0", 13);
    fault("board 2 by 2;a", 13);
    fault("board 2 by 2{", 12);
    fault("board 2 by 2;wall 0`", 19);
    fault("board 2 by 2;wall :", 18);
    fault("board 2 by 2;wall 0/", 19);
    fault(";board 2 by 2", 0);
    fault("board", 5);
    fault("board ", 6);
    fault("board x by 2", 6);
    fault("board 1 by 2", 6);
    fault("board 9 by 2", 6);
    fault("board 2 by 9", 11);
    fault("board 2 by 1", 11);
    fault("board 002 by 2", 6);
    fault("board 2 at 2", 8);
    fault("board 2 by 2 2", 13);
    fault("board 2 by 2 wall", 13);
    fault("board 2 by 2;", 13);
    fault("board 2 by 2;;", 13);
    fault("board 2 by 2; board 2 by 2", 14);
    fault("board 2 by 2;wall 4", 18);
    fault("board 2 by 2;wall -1", 18);
    fault("board 2 by 2;wall", 17);
    fault("board 2 by 2;wall 0\n", 19);
    fault("board 2 by 2;wall 0\u00e9", 19);
    fault("board 2 by 2;thing 1 by 1 at 0;wall 0", 36);
    fault("board 2 by 2;hands 0", 19);
    fault("board 2 by 2;hands 4", 19);
    fault("board 2 by 2;landing 4 door 0", 21);
    fault("board 2 by 2;landing 1", 22);
    fault("board 2 by 2;landing 1;door 1", 22);
    fault("board 2 by 2;landing 1 door 4", 28);
    fault("board 2 by 2;door 1", 13);
    thingFaults();
  }

  static void thingFaults() {
    fault("board 2 by 2;thing 0 by 1 at 0", 19);
    fault("board 2 by 2;thing 4 by 1 at 0", 19);
    fault("board 2 by 2;thing 1 by 4 at 0", 24);
    fault("board 2 by 2;thing 1 by 1 at 4", 29);
    fault("board 2 by 2;thing 1 by 1 at", 28);
    fault("board 2 by 2;thing 1 by 1;", 25);
    fault("board 2 by 2;thing 2 by 1 at 1", 29);
    fault("board 2 by 2;thing 2 by 1 at 1 heavy 9", 29);
    fault("board 2 by 2;thing 2 by 1 at 2 turned fixed", 29);
    fault("board 2 by 2;thing 2 by 2 at 0 turned", 29);
    fault("board 2 by 2;wall 1;thing 2 by 1 at 0", 36);
    fault("board 2 by 2;thing 1 by 2 at 0;thing 2 by 1 at 2", 47);
    fault("board 2 by 2;thing 1 by 1 at 0 heavy 0", 37);
    fault("board 2 by 2;thing 1 by 1 at 0 heavy 4", 37);
    fault("board 2 by 2;thing 1 by 1 at 0 heavy", 36);
    fault("board 2 by 2;thing 2 by 1 at 0 heavy 1 turned", 39);
    fault("board 2 by 2;thing 1 by 1 at 0 plain fixed", 37);
    fault("board 2 by 2;thing 1 by 1 at 0 fixed fixed", 37);
    fault(WIDE + ";thing 1 by 1 at 6", WIDE.length() + 1);
    fault(WIDE + ";hands 1;wall 5", WIDE.length() + 14);
  }

  static void p14() {
    TheOtherRoom x = with(SMALL);
    int[] told = {4, 3, 2, 2, 1, 3, 0, 0, 0};
    for (int i = 0; i < 9; i++) due("flatOf " + i, x.flatOf(0, i), told[i]);
    x.carry(0, 1, 200);
    x.carry(0, 0, 4);
    x.alter(0, 0, 1);
    due("hands", x.flatOf(0, 3), 1);
    due("CARRIES", x.flatOf(0, 6), 2);
    due("STEPS", x.flatOf(0, 7), 5);
    due("on the LANDING", x.flatOf(0, 8), 1);
    due("BAD", x.flatOf(0, -1) + x.flatOf(0, 9), 2 * BAD);
    for (int f : NO_FLATS) due("BAD", x.flatOf(f, 0), BAD);
    due("BAD counted", refused(x, BAD), 7);
    due("another one has its own", flat(x, "board 2 by 3"), 1);
    due("another one has its own", x.flatOf(1, 1) * 100 + x.flatOf(1, 6) * 10 + x.flatOf(1, 7), 300);
  }

  static void p15() {
    TheOtherRoom x = with("board 4 by 3;thing 1 by 3 at 1 heavy 2;thing 2 by 1 at 2 turned fixed plain");
    int[][] told = {{1, 3, 2, 0, 0, 2}, {2, 1, 1, 1, 1, 5}};
    for (int t = 0; t < 2; t++)
      for (int i = 0; i < 6; i++) due("thingOf(0, " + t + ", " + i + ")", x.thingOf(0, t, i), told[t][i]);
    x.put(0, 1, 7);
    due("put", x.thingOf(0, 1, 5), 7);
    due("BAD", x.thingOf(0, 2, 0) + x.thingOf(0, -1, 0) + x.thingOf(0, 0, 6) + x.thingOf(0, 0, -1), 4 * BAD);
    for (int f : NO_FLATS) due("BAD", x.thingOf(f, 0, 0), BAD);
  }

  static void p16() {
    TheOtherRoom x = with(SMALL);
    due("FLOOR", x.floor(0, 0), 0x7FF);
    due("covered", x.floor(0, 1), 0x43);
    due("free", x.floor(0, 2), 0x7BC);
    x.put(0, 1, 200);
    due("on the LANDING it covers nothing", x.floor(0, 1), 3);
    due("BAD", x.floor(0, 3) | x.floor(0, -1), 0);
    for (int f : NO_FLATS) due("BAD", x.floor(f, 0), 0);
    due("nothing is refused", refused(x, BAD), 0);
  }

  static void p17() {
    TheOtherRoom x = with(SMALL);
    int[] at = {0, 0, -1, -1, -1, -1, 1, -1, -1, -1, -1, -1};
    for (int c = 0; c < 12; c++) due("at(0, " + c + ")", x.at(0, c), at[c]);
    due("nothing is refused so far", refused(x, BAD), 0);
    due("BAD", x.at(0, 12) + x.at(0, -1) + x.at(0, 64), 3 * BAD);
    for (int f : NO_FLATS) due("BAD", x.at(f, 0), BAD);
    TheOtherRoom y = with("board 8 by 8;thing 1 by 1 at 63");
    due("CELL 63", y.at(0, 63), 0);
  }

  static void p18() {
    TheOtherRoom x = with(SMALL);
    due("CELLS", x.covers(0, 0, 0), 3);
    due("turned", x.covers(0, 0, 1), 0x11);
    due("walls and others don't matter", x.covers(0, 0, 20), 0xC00);
    due("off to the right", x.covers(0, 0, 6), 0);
    due("off below", x.covers(0, 0, 17), 0);
    due("no SPOT", x.covers(0, 0, 24) | x.covers(0, 0, 127) | x.covers(0, 0, 128) | x.covers(0, 0, 200)
        | x.covers(0, 0, -1) | x.covers(0, 0, -2), 0);
    due("a square one, turned", x.covers(0, 1, 1), 0);
    due("nothing such", x.covers(0, 2, 0) | x.covers(0, -1, 0) | x.covers(1, 0, 0) | x.covers(-1, 0, 0), 0);
    due("nothing is refused", refused(x, BAD), 0);
    TheOtherRoom y = with("board 8 by 8;thing 3 by 2 at 0");
    due("the last CELLS", y.covers(0, 0, 106), 0xE0E0L << 48);
    due("the last CELLS, turned", y.covers(0, 0, 93), 0xC0C0C0L << 40);
    due("off", y.covers(0, 0, 108) | y.covers(0, 0, 122) | y.covers(0, 0, 109) | y.covers(0, 0, 95), 0);
  }

  static void p19() {
    TheOtherRoom x = with(SMALL);
    due("a wall", x.wall(0, 2, true), 1);
    due("it was so", x.wall(0, 2, true), 0);
    due("FLOOR", x.floor(0, 0), 0x7FB);
    due("FLOOR again", x.wall(0, 2, false), 1);
    due("it was so", x.wall(0, 2, false), 0);
    due("the last one", x.wall(0, 11, false), 1);
    due("FLOOR", x.floor(0, 0), 0xFFF);
    due("STUCK", x.wall(0, 1, true), STUCK);
    due("STUCK", x.wall(0, 6, false), STUCK);
    due("FLOOR", x.floor(0, 0), 0xFFF);
    due("BAD", x.wall(0, 12, true) + x.wall(0, -1, false), 2 * BAD);
    for (int f : NO_FLATS) due("BAD", x.wall(f, 0, true), BAD);
    due("counted", refused(x, BAD) * 10 + refused(x, STUCK), 72);
  }

  static void p20() {
    TheOtherRoom x = with(SMALL);
    due("hands", x.alter(0, 0, 3), 2);
    due("hands", x.alter(0, 0, 1), 3);
    due("landing", x.alter(0, 1, 3), 1);
    due("door", x.alter(0, 2, 11), 3);
    due("door", x.alter(0, 2, 0), 11);
    due("as told", x.flatOf(0, 3) * 100 + x.flatOf(0, 4) * 10 + x.flatOf(0, 5), 130);
    x.put(0, 0, 200);
    x.put(0, 1, 200);
    due("STUCK", x.alter(0, 1, 1), STUCK);
    due("as many as are there", x.alter(0, 1, 2), 3);
    int[][] bad = {{-1, 1}, {3, 1}, {0, 0}, {0, 4}, {1, -1}, {1, 4}, {2, -1}, {2, 12}};
    for (int[] b : bad) due("BAD", x.alter(0, b[0], b[1]), BAD);
    for (int f : NO_FLATS) due("BAD", x.alter(f, 0, 1), BAD);
    due("counted", refused(x, BAD) * 10 + refused(x, STUCK), 131);
  }

  static void p21() {
    TheOtherRoom x = with(SMALL + ";thing 1 by 1 at 8 fixed;thing 1 by 1 at 9 heavy 3");
    due("it STANDS so", x.steps(0, 0, 0), 0);
    due("one", x.steps(0, 0, 2), 1);
    due("turned", x.steps(0, 0, 3), 2);
    due("round the corner", x.steps(0, 0, 7), 4);
    due("LANDING", x.steps(0, 0, 200), 3);
    due("on another one", x.steps(0, 0, 10), NONE);
    due("on a wall", x.steps(0, 1, 22), NONE);
    due("a fixed one where it STANDS", x.steps(0, 2, 16), 0);
    due("a fixed one", x.steps(0, 2, 8), NONE);
    due("too heavy", x.steps(0, 3, 10), NONE);
    x.alter(0, 0, 3);
    due("with more hands", x.steps(0, 3, 10), 1);
    x.alter(0, 1, 0);
    due("no LANDING", x.steps(0, 1, 200), NONE);
    due("BAD: off the board", x.steps(0, 0, 6), BAD);
    due("BAD: a square one turned", x.steps(0, 1, 1), BAD);
    due("BAD: no place", x.steps(0, 0, -1) + x.steps(0, 0, 24) + x.steps(0, 0, 128) + x.steps(0, 0, 201), 4 * BAD);
    due("BAD: no THING", x.steps(0, 4, 0) + x.steps(0, -1, 0), 2 * BAD);
    for (int f : NO_FLATS) due("BAD", x.steps(f, 0, 0), BAD);
    TheOtherRoom y = with("board 5 by 2;wall 2;wall 7;landing 1 door 0;thing 1 by 1 at 0;thing 1 by 1 at 3");
    due("no way", y.steps(0, 0, 8), NONE);
    due("fewest", y.steps(0, 0, 12), 2);
    due("fewest", y.steps(0, 1, 18), 2);
  }

  static void p22() {
    TheOtherRoom x = with("board 3 by 2;thing 1 by 1 at 0;thing 2 by 1 at 4;landing 1 door 0;thing 1 by 1 at 2 fixed;"
        + "thing 1 by 1 at 3 heavy 3");
    due("a SPOT and the LANDING", x.reach(0, 0), 2);
    due("in the way", x.reach(0, 1), 0);
    due("fixed", x.reach(0, 2), 0);
    due("too heavy", x.reach(0, 3), 0);
    x.put(0, 0, 200);
    due("from the LANDING", x.reach(0, 0), 2);
    x.alter(0, 0, 3);
    due("heavy as hands are, the LANDING is full", x.reach(0, 3), 2);
    due("still in the way", x.reach(0, 1), 0);
    due("BAD", x.reach(0, 4) + x.reach(0, -1), 2 * BAD);
    for (int f : NO_FLATS) due("BAD", x.reach(f, 0), BAD);
    TheOtherRoom y = with("board 8 by 8;thing 1 by 2 at 0;landing 1 door 63");
    due("all SPOTS and the LANDING", y.reach(0, 0), 112);
  }

  static void p23() {
    TheOtherRoom x = with(SMALL);
    due("STEPS", x.carry(0, 0, 7), 4);
    due("stands", x.thingOf(0, 0, 5), 7);
    due("to the LANDING", x.carry(0, 0, 200), 1);
    due("STUCK: it is full", x.carry(0, 1, 200), STUCK);
    due("STUCK: it STANDS so", x.carry(0, 0, 200) + x.carry(0, 1, 12), 2 * STUCK);
    due("STUCK: a wall", x.carry(0, 1, 22), STUCK);
    due("counted", x.flatOf(0, 6) * 10 + x.flatOf(0, 7), 25);
    due("BAD: no place", x.carry(0, 0, 6) + x.carry(0, 1, 1) + x.carry(0, 0, 150) + x.carry(0, 0, -1), 4 * BAD);
    due("BAD: no THING", x.carry(0, 2, 0), BAD);
    for (int f : NO_FLATS) due("BAD", x.carry(f, 0, 0), BAD);
    due("from the LANDING", x.carry(0, 0, 4), 1);
    due("counted", x.flatOf(0, 6) * 10 + x.flatOf(0, 7), 36);
  }

  static void p24() {
    TheOtherRoom x = with(SMALL + ";thing 1 by 1 at 8 fixed plain;thing 2 by 1 at 4 heavy 3 plain");
    due("a fixed one", x.put(0, 2, 20), 1);
    due("a plain one, turned", x.put(0, 3, 7), 1);
    due("stands", x.thingOf(0, 3, 5), 7);
    due("where it STANDS", x.put(0, 0, 0), 1);
    due("over its own CELLS", x.put(0, 0, 2), 1);
    due("STUCK: a wall", x.put(0, 1, 22), STUCK);
    due("STUCK: another one", x.put(0, 1, 4), STUCK);
    due("on the LANDING", x.put(0, 1, 200), 1);
    due("STUCK: it is full", x.put(0, 2, 200), STUCK);
    due("it is there already", x.put(0, 1, 200), 1);
    due("from the LANDING, away from the DOOR", x.put(0, 1, 16), 1);
    due("nothing is counted", x.flatOf(0, 6) + x.flatOf(0, 7), 0);
    due("BAD: no place", x.put(0, 0, 6) + x.put(0, 1, 1) + x.put(0, 0, 199) + x.put(0, 0, -1), 4 * BAD);
    due("BAD: no THING", x.put(0, 4, 0), BAD);
    for (int f : NO_FLATS) due("BAD", x.put(f, 0, 0), BAD);
    due("STUCK counted", refused(x, STUCK), 3);
  }

  static void p25() {
    TheOtherRoom x = with(SMALL);
    due("a SPOT", x.draw(0, 0, 0, 20), 1);
    due("the LANDING", x.draw(0, 3, 1, 200), 1);
    due("drawn", x.drawn(0, 0, 0), 20);
    due("drawn", x.drawn(0, 3, 1), 200);
    due("nothing", x.draw(0, 0, 0, NONE), 1);
    due("drawn", x.drawn(0, 0, 0), NONE);
    due("BAD DRAWING", x.draw(0, 4, 0, 0) + x.draw(0, -1, 0, 0), 2 * BAD);
    due("BAD THING", x.draw(0, 0, 2, 0) + x.draw(0, 0, -1, NONE), 2 * BAD);
    due("BAD place", x.draw(0, 0, 0, 6) + x.draw(0, 0, 1, 1) + x.draw(0, 0, 0, 128) + x.draw(0, 0, 0, -2), 4 * BAD);
    for (int f : NO_FLATS) due("BAD", x.draw(f, 0, 0, 0), BAD);
    due("BAD counted", refused(x, BAD), 13);
  }

  static void p26() {
    TheOtherRoom x = with(SMALL);
    for (int d = 0; d < 4; d++) due("nothing at first", x.drawn(0, d, 1), NONE);
    due("nothing is refused", refused(x, BAD), 0);
    x.draw(0, 1, 0, 9);
    due("a DRAWING for itself", x.drawn(0, 0, 0) * 10 + x.drawn(0, 1, 0), -1);
    due("BAD", x.drawn(0, 4, 0) + x.drawn(0, -1, 0) + x.drawn(0, 0, 2) + x.drawn(0, 0, -1), 4 * BAD);
    for (int f : NO_FLATS) due("BAD", x.drawn(f, 0, 0), BAD);
  }

  static void p27() {
    TheOtherRoom x = with(SMALL);
    x.put(0, 1, 200);
    due("THINGS", x.take(0, 2), 2);
    due("drawn", x.drawn(0, 2, 0) * 1000 + x.drawn(0, 2, 1), 200);
    due("only that one", x.drawn(0, 1, 0), NONE);
    x.put(0, 0, 8);
    due("as it was", x.drawn(0, 2, 0), 0);
    due("BAD", x.take(0, 4) + x.take(0, -1), 2 * BAD);
    for (int f : NO_FLATS) due("BAD", x.take(f, 0), BAD);
    flat(x, "board 2 by 2");
    due("no THINGS", x.take(1, 0), 0);
  }

  static void p28() {
    TheOtherRoom x = with(SMALL);
    due("nothing told", x.off(0, 0), 0);
    x.take(0, 0);
    due("as drawn", x.off(0, 0), 0);
    x.draw(0, 0, 1, 200);
    due("one", x.off(0, 0), 1);
    x.draw(0, 0, 0, 1);
    due("two", x.off(0, 0), 2);
    x.put(0, 1, 200);
    due("one", x.off(0, 0), 1);
    due("BAD", x.off(0, 4) + x.off(0, -1), 2 * BAD);
    for (int f : NO_FLATS) due("BAD", x.off(f, 0), BAD);
  }

  static void p29() {
    TheOtherRoom x = with(SMALL);
    due("nothing told", x.sound(0, 0), 1);
    x.draw(0, 0, 0, 10);
    due("where one STANDS that isn't told", x.sound(0, 0), 1);
    x.draw(0, 0, 1, 12);
    due("on one another", x.sound(0, 0), 0);
    x.draw(0, 0, 1, 14);
    due("beside one another", x.sound(0, 0), 1);
    x.draw(0, 0, 1, 22);
    due("on a wall", x.sound(0, 0), 0);
    x.draw(0, 0, 1, 200);
    due("one on the LANDING", x.sound(0, 0), 1);
    x.draw(0, 0, 0, 200);
    due("two on the LANDING", x.sound(0, 0), 0);
    x.alter(0, 1, 2);
    due("room for two", x.sound(0, 0), 1);
    due("BAD", x.sound(0, 4) + x.sound(0, -1), 2 * BAD);
    for (int f : NO_FLATS) due("BAD", x.sound(f, 0), BAD);
  }

  static void row(TheOtherRoom x, int s, long... all) {
    x.row(s, 3, all.length);
    for (int i = 0; i < all.length; i++) x.set(s, i, all[i]);
  }

  static void p30() {
    TheOtherRoom x = with(SMALL);
    row(x, 1, 1200, 4, 200, 1000, 0);
    due("none", x.judge(0, 1, 0), NONE);
    due("two", x.judge(0, 1, 2), NONE);
    due("the LANDING is full", x.judge(0, 1, 3), 2);
    due("nothing moved", x.thingOf(0, 1, 5) + x.flatOf(0, 7), 12);
    row(x, 1, 0);
    due("it STANDS so", x.judge(0, 1, 1), 0);
    row(x, 1, 2, 1010, 2);
    due("it STANDS so by then", x.judge(0, 1, 3), 2);
    long[] odd = {-1, -1000, -996, 2000, 5000, 6000, 6, 128, 201, 999, 1013, 1_000_000_000_000L, Long.MIN_VALUE,
      Long.MAX_VALUE, (1L << 32) + 2};
    for (long v : odd) {
      row(x, 1, 2, v);
      due("no CARRY: " + v, x.judge(0, 1, 2), 1);
    }
    row(x, 1, new long[19]);
    x.move(2, 1, 0, 0);
    for (int f : NO_FLATS) due("BAD FLAT", x.judge(f, 2, 0), BAD);
    due("BAD SHELF", x.judge(0, 8, 0) + x.judge(0, -1, 0), 2 * BAD);
    due("BAD n ahead of OTHER", x.judge(0, 2, 21) + x.judge(0, 2, -1), 2 * BAD);
    due("OTHER", x.judge(0, 2, 0), OTHER);
    due("NOTHING", x.judge(0, 3, 0), NOTHING);
    due("fewer elements", x.judge(0, 1, 20), BAD);
    row(x, 1, 2, 0, 2, 0, 2, 0, 2, 0, 2, 0, 2, 0, 2, 0, 2, 0, 2, 0, 2, 0);
    due("20", x.judge(0, 1, 20), NONE);
  }

  static void p31() {
    TheOtherRoom x = with(SMALL);
    row(x, 1, 1200, 4, 200, 1000, 0);
    due("none", x.cost(0, 1, 0), 0);
    due("one", x.cost(0, 1, 1), 3);
    due("two", x.cost(0, 1, 2), 5);
    due("till the first that can't be", x.cost(0, 1, 5), 5);
    due("nothing moved", x.flatOf(0, 7), 0);
    x.move(2, 1, 0, 0);
    for (int f : NO_FLATS) due("BAD FLAT", x.cost(f, 2, 0), BAD);
    due("BAD SHELF", x.cost(0, 8, 0) + x.cost(0, -1, 0), 2 * BAD);
    due("BAD n ahead of OTHER", x.cost(0, 2, 21) + x.cost(0, 2, -1), 2 * BAD);
    due("OTHER", x.cost(0, 2, 0), OTHER);
    due("NOTHING", x.cost(0, 3, 0), NOTHING);
    due("fewer elements", x.cost(0, 1, 6), BAD);
  }

  static void p32() {
    TheOtherRoom x = with("board 4 by 2;landing 2 door 0;thing 2 by 1 at 0;thing 1 by 1 at 2;thing 1 by 1 at 3;"
        + "thing 1 by 1 at 6 fixed");
    due("nothing drawn", x.waits(0, 0, 0), 0);
    x.draw(0, 0, 0, 4);
    due("for two, though nothing is drawn of them", x.waits(0, 0, 0), 6);
    x.draw(0, 0, 2, 6);
    due("one is drawn as it STANDS", x.waits(0, 0, 0), 2);
    x.draw(0, 0, 1, 0);
    due("for the other way round", x.waits(0, 0, 1), 1);
    due("as drawn", x.waits(0, 0, 2), 0);
    x.draw(0, 0, 1, 12);
    due("for a fixed one", x.waits(0, 0, 1), 8);
    x.draw(0, 0, 1, 200);
    due("the LANDING", x.waits(0, 0, 1), 0);
    x.put(0, 1, 200);
    due("one on the LANDING covers nothing", x.waits(0, 0, 0), 0);
    x.draw(0, 0, 0, 2);
    due("not for itself", x.waits(0, 0, 0), 0);
    due("BAD", x.waits(0, 4, 0) + x.waits(0, -1, 0) + x.waits(0, 0, 4) + x.waits(0, 0, -1), 4 * BAD);
    for (int f : NO_FLATS) due("BAD", x.waits(f, 0, 0), BAD);
  }

  static void p33() {
    TheOtherRoom x = with(WIDE);
    due("none", x.rings(0, 0), 0);
    x.draw(0, 0, 0, 2);
    x.draw(0, 0, 1, 4);
    due("a row is no RING", x.rings(0, 0), 0);
    x.draw(0, 0, 2, 0);
    due("three", x.rings(0, 0), 7);
    x.draw(0, 0, 5, 2);
    due("one that waits for a RING", x.rings(0, 0), 7);
    x.draw(0, 0, 3, 8);
    x.draw(0, 0, 4, 6);
    due("two RINGS", x.rings(0, 0), 31);
    x.draw(0, 0, 1, 2);
    due("one that is as drawn", x.rings(0, 0), 24);
    due("BAD", x.rings(0, 4) + x.rings(0, -1), 2 * BAD);
    for (int f : NO_FLATS) due("BAD", x.rings(f, 0), BAD);
  }

  static void p34() {
    TheOtherRoom x = with(WIDE);
    due("none", x.bound(0, 0), 0);
    x.draw(0, 0, 0, 2);
    x.draw(0, 0, 1, 4);
    due("two", x.bound(0, 0), 2);
    x.draw(0, 0, 1, 0);
    due("and a RING", x.bound(0, 0), 3);
    x.draw(0, 0, 2, 6);
    x.draw(0, 0, 3, 4);
    due("two RINGS are 1 more", x.bound(0, 0), 5);
    due("BAD", x.bound(0, 4) + x.bound(0, -1), 2 * BAD);
    for (int f : NO_FLATS) due("BAD", x.bound(f, 0), BAD);
  }

  static void p35() {
    TheOtherRoom x = with(SWAP);
    due("nothing drawn", x.fewest(0, 0), 0);
    x.draw(0, 0, 0, 6);
    x.draw(0, 0, 1, 0);
    due("two can't change places on a round of CELLS", x.fewest(0, 0), NONE);
    x.wall(0, 4, false);
    due("two change places", x.fewest(0, 0), 3);
    x.wall(0, 4, true);
    x.draw(0, 0, 1, 8);
    due("drawn on a wall", x.fewest(0, 0), NONE);
    x.draw(0, 0, 1, NONE);
    due("one out of the way", x.fewest(0, 0), 2);
    due("nothing moved", x.flatOf(0, 6) + x.thingOf(0, 0, 5), 0);
    due("BAD", x.fewest(0, 4) + x.fewest(0, -1), 2 * BAD);
    for (int f : NO_FLATS) due("BAD", x.fewest(f, 0), BAD);
    due("STUCK so far", refused(x, STUCK), 0);
    spent();
    layers();
  }

  /** SPENT is more than 1,000 STATES, the layer's in which one is AS DRAWN among them. */
  static void spent() {
    TheOtherRoom x = with(WIDE);
    x.draw(0, 0, 0, 126);
    due("FOUND in layer 1", x.fewest(0, 0), 1);
    x.draw(0, 0, 1, 124);
    due("SPENT in layer 2", x.fewest(0, 0), STUCK);
    due("SPENT", x.least(0, 0), STUCK);
    due("SPENT", x.first(0, 0), STUCK);
    due("SPENT", x.states(0, 0), STUCK);
    due("counted", refused(x, STUCK), 4);
    x.draw(0, 0, 0, 0);
    x.draw(0, 0, 1, NONE);
    due("layer 0", x.fewest(0, 0), 0);
    // two 1 by 1: a layer 0 of 1, and as many STATES in all as pairs of CELLS
    TheOtherRoom y = with("board 8 by 4;thing 1 by 1 at 0;thing 1 by 1 at 1");
    y.draw(0, 0, 0, 2);
    y.draw(0, 0, 1, 0);
    due("992 STATES", y.states(0, 0), 992);
    due("three CARRIES", y.fewest(0, 0), 3);
    due("BAD ahead of STUCK", x.fewest(0, 4), BAD);
    due("10 times 10 times 10 STATES", rooms(10, 10, 10).states(0, 0), 1000);
    due("are not SPENT", rooms(10, 10, 10).fewest(0, 0), 3);
    due("7 times 11 times 13 are", rooms(7, 11, 13).fewest(0, 0), STUCK);
  }

  /** Three THINGS, each alone in a room of so many CELLS, each drawn elsewhere in it. */
  static TheOtherRoom rooms(int... sizes) {
    TheOtherRoom x = with("board 8 by 8;thing 1 by 1 at 0;thing 1 by 1 at 24;thing 1 by 1 at 48");
    int[] starts = {0, 24, 48};
    for (int c = 0; c < 64; c++) {
      boolean floor = false;
      for (int i = 0; i < 3; i++) floor |= c >= starts[i] && c < starts[i] + sizes[i];
      if (!floor) x.wall(0, c, true);
    }
    for (int i = 0; i < 3; i++) x.draw(0, 0, i, 2 * starts[i] + 2);
    return x;
  }

  /** Things in a row on a floor as narrow as they: each can go one CELL on, so layers are many. */
  static void layers() {
    TheOtherRoom x = with("board 8 by 2;wall 8;wall 9;wall 10;wall 11;wall 12;wall 13;wall 14;wall 15;thing 1 by 1 at 0;"
        + "thing 1 by 1 at 1;thing 1 by 1 at 2;thing 1 by 1 at 3;thing 1 by 1 at 4;thing 1 by 1 at 5");
    for (int i = 0; i < 6; i++) x.draw(0, 0, i, 2 * i + 4);
    due("six CARRIES", x.fewest(0, 0), 6);
    due("least", x.least(0, 0), 12);
    due("the last one goes first", x.first(0, 0), 5014);
    TheOtherRoom y = with("board 3 by 2;wall 3;wall 5;thing 1 by 1 at 0;thing 1 by 1 at 1");
    y.draw(0, 0, 0, 4);
    y.draw(0, 0, 1, 0);
    due("2, 4, 1, 0, 2, 0: more than six would be more", y.fewest(0, 0), 3);
    due("behind layer 6", flat(y, ONE_FREE), 1);
    y.draw(1, 0, 0, 2);
    y.draw(1, 0, 1, 0);
    due("not by six", y.fewest(1, 0), NONE);
    due("1, 2, 3, 5, 6, 7, 10 STATES", y.states(1, 0), 34);
    y.carry(1, 2, 10);
    y.carry(1, 1, 4);
    y.carry(1, 0, 2);
    y.carry(1, 3, 0);
    y.carry(1, 4, 6);
    due("the sixth", y.carry(1, 0, 8), 1);
    y.take(1, 1);
    flat(y, ONE_FREE);
    for (int i = 0; i < 5; i++) y.draw(2, 1, i, y.drawn(1, 1, i));
    due("by six", y.fewest(2, 1), 6);
    due("least", y.least(2, 1), 6);
    due("first", y.first(2, 1), 2010);
  }

  static void p36() {
    TheOtherRoom x = with(SWAP);
    due("nothing drawn", x.least(0, 0), 0);
    x.draw(0, 0, 0, 6);
    due("one out of the way", x.least(0, 0), 2);
    x.draw(0, 0, 1, 8);
    due("there is none", x.least(0, 0), NONE);
    due("BAD", x.least(0, 4) + x.least(0, -1), 2 * BAD);
    for (int f : NO_FLATS) due("BAD", x.least(f, 0), BAD);
    // fewest CARRIES count first, then STEPS: one long CARRY, not two short ones
    TheOtherRoom y = with("board 4 by 3;thing 1 by 1 at 0;thing 1 by 1 at 1;wall 5");
    y.draw(0, 0, 0, 4);
    due("one CARRY round", y.fewest(0, 0) * 100 + y.least(0, 0), 106);
    y.draw(0, 0, 1, 6);
    due("two", y.fewest(0, 0) * 100 + y.least(0, 0), 204);
  }

  static void p37() {
    TheOtherRoom x = with(SWAP);
    due("nothing is to be done", x.first(0, 0), NONE);
    x.draw(0, 0, 0, 6);
    due("the other one first, to the least place", x.first(0, 0), 1012);
    x.draw(0, 0, 1, 8);
    due("there is none", x.first(0, 0), NONE);
    due("BAD", x.first(0, 4) + x.first(0, -1), 2 * BAD);
    for (int f : NO_FLATS) due("BAD", x.first(f, 0), BAD);
    TheOtherRoom y = with("board 4 by 2;thing 1 by 1 at 1;thing 1 by 1 at 2;landing 1 door 1");
    y.draw(0, 0, 1, 0);
    y.draw(0, 0, 0, 6);
    due("either may go first", y.fewest(0, 0), 2);
    due("the least THING", y.first(0, 0), 6);
    y.draw(0, 0, 1, NONE);
    y.draw(0, 0, 0, 200);
    due("the LANDING is told as 200", y.first(0, 0), 200);
    // 0 first is a long way round for both: 1 first, as that takes fewer STEPS
    TheOtherRoom z = with("board 4 by 3;thing 1 by 1 at 0;thing 1 by 1 at 1;wall 5");
    z.draw(0, 0, 0, 4);
    z.draw(0, 0, 1, 12);
    due("fewer STEPS ahead of the least THING", z.first(0, 0), 1012);
  }

  static void p38() {
    TheOtherRoom x = with(SWAP);
    due("layer 0", x.states(0, 0), 1);
    x.draw(0, 0, 0, 2);
    due("layers 0 and 1", x.states(0, 0), 11);
    due("BAD", x.states(0, 4) + x.states(0, -1), 2 * BAD);
    for (int f : NO_FLATS) due("BAD", x.states(f, 0), BAD);
    TheOtherRoom y = with("board 2 by 2;thing 1 by 1 at 0;thing 1 by 1 at 1 fixed;wall 2");
    y.draw(0, 0, 0, 2);
    due("a layer that has none", y.states(0, 0), 1);
  }

  static void p39() {
    TheOtherRoom x = with("board 4 by 2;thing 1 by 1 at 0;thing 1 by 1 at 3");
    due("nothing is told by any", x.either(0), NONE);
    x.draw(0, 3, 0, 4);
    due("the only one", x.either(0), 3);
    x.draw(0, 2, 0, 2);
    x.draw(0, 2, 1, 4);
    x.draw(0, 1, 1, 2);
    due("least STEPS of the least FEWEST, the first", x.either(0), 1);
    x.draw(0, 3, 0, 2);
    due("fewer STEPS", x.either(0), 3);
    x.draw(0, 2, 1, NONE);
    due("the first", x.either(0), 2);
    x.draw(0, 3, 0, 0);
    due("nothing to be done", x.either(0), 3);
    TheOtherRoom y = with("board 4 by 2;thing 1 by 1 at 0;wall 1;wall 5");
    y.draw(0, 0, 0, 4);
    due("none can be", y.either(0), NONE);
    y.draw(0, 2, 0, 8);
    due("the one that can be", y.either(0), 2);
    TheOtherRoom z = with(WIDE);
    z.draw(0, 0, 0, 0);
    due("none is SPENT", z.either(0), 0);
    z.draw(0, 3, 0, 126);
    z.draw(0, 3, 1, 124);
    due("SPENT for one", z.either(0), STUCK);
    for (int f : NO_FLATS) due("BAD", z.either(f), BAD);
  }

  static void p40() {
    TheOtherRoom x = with(SWAP);
    x.draw(0, 0, 0, 6);
    due("what is drawn of it is gone, too", x.shelf(0, 0), 0);
    x.draw(0, 0, 1, 0);
    due("of several the first", x.shelf(0, 0), 0);
    x.draw(0, 0, 2, 8);
    x.draw(0, 0, 0, 0);
    x.draw(0, 0, 1, 2);
    x.draw(0, 0, 2, 6);
    due("the one on which it hangs", x.shelf(0, 0), 1);
    TheOtherRoom y = with("board 2 by 3;wall 3;wall 5;landing 1 door 4;thing 1 by 1 at 0;thing 1 by 1 at 2 heavy 3;"
        + "thing 1 by 1 at 1 heavy 3");
    y.draw(0, 0, 0, 8);
    y.draw(0, 0, 2, 4);
    due("without none there is any", y.shelf(0, 0), NONE);
    y.draw(0, 0, 2, NONE);
    due("the first without which there is any", y.shelf(0, 0), 0);
    y.draw(0, 0, 1, 4);
    due("the first", y.shelf(0, 0), 0);
    // on the LANDING one that is gone takes no room
    TheOtherRoom l = with("board 2 by 2;landing 1 door 0;thing 1 by 1 at 0;thing 1 by 1 at 1 heavy 3;thing 1 by 1 at 2");
    l.put(0, 1, 200);
    l.draw(0, 0, 0, 200);
    l.draw(0, 0, 2, 0);
    due("the LANDING has room then", l.shelf(0, 0), 0);
    l.draw(0, 0, 2, NONE);
    l.put(0, 0, 6);
    due("without it nothing is to be done", l.shelf(0, 0), 0);
    TheOtherRoom z = with("board 2 by 2");
    due("no THINGS", z.shelf(0, 0), STUCK);
    due("BAD", z.shelf(0, 4) + z.shelf(0, -1), 2 * BAD);
    for (int f : NO_FLATS) due("BAD", z.shelf(f, 0), BAD);
    TheOtherRoom w = with(WIDE);
    w.draw(0, 0, 0, 126);
    w.draw(0, 0, 1, 124);
    due("SPENT for one", w.shelf(0, 0), STUCK);
  }

  static void p41() {
    TheOtherRoom x = with(SWAP);
    x.draw(0, 0, 0, 6);
    x.draw(0, 0, 1, 0);
    x.draw(0, 0, 2, 10);
    int[] near = {3, 2, 2, 1};
    for (int k = 0; k < 4; k++) due("near(0, 0, " + k + ")", x.near(0, 0, k), near[k]);
    due("nothing drawn", x.near(0, 1, 0), 0);
    due("BAD", x.near(0, 4, 0) + x.near(0, -1, 0) + x.near(0, 0, -1) + x.near(0, 0, 4), 4 * BAD);
    for (int f : NO_FLATS) due("BAD", x.near(f, 0, 0), BAD);
    TheOtherRoom y = with(WIDE);
    y.draw(0, 0, 0, 126);
    y.draw(0, 0, 1, 124);
    due("layer 1", y.near(0, 0, 1), 1);
    due("SPENT", y.near(0, 0, 2), STUCK);
    y.draw(0, 0, 1, NONE);
    due("FOUND ahead of that", y.near(0, 0, 3), 0);
  }

  static void p42() {
    TheOtherRoom x = with("board 4 by 2;thing 1 by 1 at 0;wall 1;wall 5;wall 7");
    due("nothing is to be done", x.more(0, 0), NONE);
    x.draw(0, 0, 0, 6);
    due("there would be one", x.more(0, 0), 1);
    x.wall(0, 1, false);
    due("it would not be less", x.more(0, 0), NONE);
    x.wall(0, 1, true);
    x.draw(0, 0, 0, 10);
    due("drawn on a wall", x.more(0, 0), 5);
    due("walls as they were", x.floor(0, 0), 0x5D);
    TheOtherRoom y = with("board 3 by 2;wall 3;wall 5;thing 1 by 1 at 0;thing 1 by 1 at 1");
    y.draw(0, 0, 0, 4);
    due("less", y.fewest(0, 0) * 10 + y.more(0, 0), 20 + NONE);
    y.draw(0, 0, 1, 2);
    due("three CARRIES", y.fewest(0, 0), 3);
    due("none alone makes it less", y.more(0, 0), NONE);
    due("BAD", y.more(0, 4) + y.more(0, -1), 2 * BAD);
    for (int f : NO_FLATS) due("BAD", y.more(f, 0), BAD);
    TheOtherRoom z = with(WIDE);
    z.draw(0, 0, 0, 126);
    z.draw(0, 0, 1, 124);
    due("SPENT now", z.more(0, 0), STUCK);
    moreSpent();
  }

  /** THINGS shut in at the left: none now; without a wall there is so much room that it is SPENT by layer 2. */
  static void moreSpent() {
    TheOtherRoom x = with("board 8 by 8;thing 1 by 1 at 0;thing 1 by 1 at 1;thing 1 by 1 at 8");
    for (int y = 0; y < 8; y++) x.wall(0, 8 * y + 2, true);
    for (int c = 16; c < 64; c++) if (c % 8 < 2) x.wall(0, c, true);
    x.draw(0, 0, 0, 2);
    x.draw(0, 0, 1, 0);
    due("shut in: a RING that can't be", x.fewest(0, 0), NONE);
    due("SPENT for the first that is looked at", x.more(0, 0), STUCK);
    x.draw(0, 0, 0, 6);
    x.draw(0, 0, 1, NONE);
    due("SPENT ahead of FOUND", x.more(0, 0), STUCK);
    x.draw(0, 0, 0, NONE);
    x.draw(0, 0, 1, 4);
    due("the first is the one", x.more(0, 0), 2);
    x.draw(0, 0, 1, 20);
    due("one ahead of that which would do", x.more(0, 0), STUCK);
  }

  static void p43() {
    TheOtherRoom x = with("board 4 by 3;wall 1;wall 4");
    due("PARTS", x.parts(0), 2);
    x.wall(0, 6, true);
    due("corners don't hang together", x.parts(0), 2);
    x.wall(0, 3, true);
    due("one alone", x.parts(0), 3);
    TheOtherRoom y = with("board 3 by 3;thing 3 by 1 at 3 fixed;thing 1 by 1 at 0");
    due("a fixed one parts", y.parts(0), 2);
    y.alter(0, 1, 1);
    y.put(0, 0, 200);
    due("on the LANDING it doesn't", y.parts(0), 1);
    y.put(0, 1, 8);
    due("one that isn't fixed doesn't", y.parts(0), 1);
    for (int c = 0; c < 9; c++) y.wall(0, c, true);
    due("only where the THING is", y.parts(0), 1);
    y.alter(0, 1, 2);
    y.put(0, 1, 200);
    y.wall(0, 4, true);
    due("no FLOOR", y.parts(0), 0);
    TheOtherRoom z = with("board 8 by 8");
    due("all", z.parts(0), 1);
    for (int c = 0; c < 64; c++) if ((c / 8 + c % 8) % 2 == 0) z.wall(0, c, true);
    due("as on a board of chess", z.parts(0), 32);
    for (int f : NO_FLATS) due("BAD", z.parts(f), BAD);
    TheOtherRoom w = with("board 4 by 2;wall 0;wall 7");
    due("a row's end and the next one's start don't hang together", w.parts(0), 1);
    w.wall(0, 1, true);
    w.wall(0, 2, true);
    w.wall(0, 5, true);
    w.wall(0, 6, true);
    due("a row's end and the next one's start don't hang together", w.parts(0), 2);
  }

  static void p44() {
    TheOtherRoom x = with("board 4 by 3;thing 1 by 1 at 0;thing 2 by 1 at 1;thing 1 by 1 at 4 fixed;wall 5;wall 6;"
        + "thing 1 by 1 at 3 heavy 3");
    due("through those that aren't fixed", x.ever(0, 0), 0xF8F);
    due("one that can't pass", x.ever(0, 1), 0xF);
    due("fixed", x.ever(0, 2), 0x10);
    due("too heavy", x.ever(0, 3), 8);
    x.put(0, 2, 14);
    x.wall(0, 8, true);
    due("parted by a fixed one", x.ever(0, 0), 0x1F);
    x.alter(0, 1, 1);
    x.alter(0, 2, 9);
    x.put(0, 0, 200);
    due("from the LANDING", x.ever(0, 0), 0xE00);
    x.put(0, 0, 0);
    x.put(0, 3, 200);
    x.alter(0, 2, 0);
    due("a heavy one on the LANDING", x.ever(0, 3), 0);
    due("no such one", x.ever(0, 4) | x.ever(0, -1) | x.ever(1, 0) | x.ever(-1, 0), 0);
    due("nothing is refused", refused(x, BAD), 0);
    everByLanding();
  }

  /** A plain one put turned comes IN not turned; those gone from the LANDING leave it free, a fixed one doesn't. */
  static void everByLanding() {
    TheOtherRoom x = with("board 2 by 3;landing 1 door 0;thing 2 by 1 at 0 plain;wall 3;wall 4;thing 1 by 1 at 5 fixed;"
        + "thing 1 by 1 at 2");
    x.put(0, 2, 200);
    x.put(0, 0, 1);
    due("OUT and IN", x.ever(0, 0), 7);
    x.alter(0, 1, 2);
    x.put(0, 1, 200);
    x.put(0, 2, 10);
    x.alter(0, 1, 1);
    due("a fixed one has the LANDING", x.ever(0, 0), 5);
    x.alter(0, 1, 2);
    due("OUT and IN", x.ever(0, 0), 7);
  }

  static void p45() {
    TheOtherRoom x = with(SWAP);
    due("layer 0 is AS DRAWN", x.begin(0, 0), 1);
    due("FOUND", x.search(4) * 10 + x.search(5), 10);
    x.draw(0, 1, 0, 6);
    due("not yet", x.begin(0, 1), 0);
    due("another one is given up", x.search(1), 1);
    due("BAD", x.begin(0, 4) + x.begin(0, -1), 2 * BAD);
    for (int f : NO_FLATS) due("BAD", x.begin(f, 0), BAD);
    due("the one under way stays", x.search(1) * 10 + x.search(4), 10);
  }

  static void p46() {
    TheOtherRoom x = with(SWAP);
    due("none is under way", x.step(), STUCK);
    x.draw(0, 0, 0, 6);
    x.begin(0, 0);
    due("layer 1", x.step(), 10);
    x.put(0, 0, 4);
    x.take(0, 3);
    due("from how all stood then", x.step() > 0 ? x.search(4) : 0, 1);
    due("FOUND", x.step(), STUCK);
    TheOtherRoom y = with("board 2 by 2;thing 1 by 1 at 0;thing 1 by 1 at 1 fixed;thing 1 by 1 at 3 fixed");
    y.draw(0, 0, 0, 2);
    y.begin(0, 0);
    due("layer 1", y.step(), 1);
    due("layer 2 has none", y.step(), 0);
    due("at its end", y.step(), STUCK);
    TheOtherRoom z = with(WIDE);
    z.draw(0, 0, 0, 126);
    z.draw(0, 0, 1, 124);
    z.begin(0, 0);
    due("layer 1", z.step(), 348);
    due("SPENT", z.step(), 1001);
    due("STUCK", z.step(), STUCK);
    TheOtherRoom w = with(ONE_FREE);
    w.draw(0, 0, 0, 2);
    w.draw(0, 0, 1, 0);
    w.begin(0, 0);
    int[] layers = {2, 3, 5, 6, 7, 10};
    for (int n : layers) due("layer", w.step(), n);
    due("behind layer 6", w.step(), STUCK);
    staysAsBegun();
  }

  // 0 . . .
  // # 1 . .   the door is 3, none may be on the LANDING
  static TheOtherRoom begun() {
    TheOtherRoom x = with("board 4 by 2;thing 1 by 1 at 0;thing 1 by 1 at 5 heavy 2;wall 4;landing 0 door 3");
    x.draw(0, 0, 0, 14);
    x.draw(0, 0, 1, 10);
    x.begin(0, 0);
    return x;
  }

  static void stays(TheOtherRoom x, String what) {
    due("layer 1 " + what, x.step(), 10);
    due("FOUND " + what, x.search(4) * 10 + x.search(5), 14);
  }

  /** Whatever becomes of the FLAT behind begin(), all layers are of the SEARCH that was begun. */
  static void staysAsBegun() {
    stays(begun(), "as nothing was done");
    TheOtherRoom x = begun();
    x.carry(0, 0, 4);
    x.take(0, 0);
    stays(x, "by the DRAWING that it was begun for: take()");
    x = begun();
    x.draw(0, 0, 0, 2);
    x.draw(0, 0, 1, NONE);
    stays(x, "by the DRAWING that it was begun for: draw()");
    due("the DRAWING is another one", x.fewest(0, 0) * 10 + x.least(0, 0), 11);
    x = begun();
    x.wall(0, 4, false);
    x.wall(0, 1, true);
    x.wall(0, 6, true);
    stays(x, "on the FLOOR that was: wall()");
    x = begun();
    x.alter(0, 0, 1);
    stays(x, "by the hands that were: alter()");
    x = begun();
    x.alter(0, 1, 3);
    x.alter(0, 2, 0);
    stays(x, "by the LANDING that was: alter()");
    x = begun();
    x.put(0, 0, 14);
    x.put(0, 1, 0);
    stays(x, "from how all stood: put()");
    x = begun();
    flat(x, "board 2 by 2;thing 1 by 1 at 0");
    x.draw(1, 0, 0, 2);
    x.fewest(1, 0);
    x.more(0, 0);
    stays(x, "though others are asked for");
    x = with(SWAP);
    x.draw(0, 0, 0, 6);
    x.begin(0, 0);
    due("layer 1", x.step(), 10);
    x.draw(0, 0, 0, 2);
    x.carry(0, 1, 12);
    due("layer 2", x.step() > 0 ? x.search(4) * 10 + x.search(5) : 0, 12);
    due("begun anew it is the other one", x.begin(0, 0) * 10 + x.step(), 10);
    due("begun anew it is the other one", x.search(4) * 10 + x.search(5), 11);
  }

  static void searched(TheOtherRoom x, int... want) {
    for (int i = 0; i < 6; i++) due("search(" + i + ")", x.search(i), want[i]);
  }

  static void p47() {
    TheOtherRoom x = new TheOtherRoom();
    flat(x, "board 2 by 2");
    flat(x, SWAP);
    due("BAD ahead of STUCK", x.search(6) + x.search(-1), 2 * BAD);
    due("none is under way", x.search(0), STUCK);
    x.draw(1, 2, 0, 6);
    x.begin(1, 2);
    searched(x, 1, 2, 0, 1, 0, NONE);
    x.step();
    searched(x, 1, 2, 1, 11, 0, NONE);
    int n = x.step();
    searched(x, 1, 2, 2, 11 + n, 1, 2);
    x.begin(0, 0);
    searched(x, 0, 0, 0, 1, 1, 0);
    TheOtherRoom y = with("board 2 by 2;thing 1 by 1 at 0;thing 1 by 1 at 1 fixed;thing 1 by 1 at 3 fixed");
    y.draw(0, 0, 0, 2);
    y.begin(0, 0);
    y.step();
    y.step();
    searched(y, 0, 0, 2, 2, 2, NONE);
    TheOtherRoom z = with(WIDE);
    z.draw(0, 0, 0, 126);
    z.draw(0, 0, 1, 124);
    z.begin(0, 0);
    z.step();
    z.step();
    searched(z, 0, 0, 2, 1001, 3, NONE);
    TheOtherRoom w = with(ONE_FREE);
    w.draw(0, 0, 0, 2);
    w.draw(0, 0, 1, 0);
    w.begin(0, 0);
    for (int i = 1; i <= 5; i++) w.step();
    searched(w, 0, 0, 5, 24, 0, NONE);
    w.step();
    searched(w, 0, 0, 6, 34, 2, NONE);
  }

  static void p48() {
    TheOtherRoom x = new TheOtherRoom();
    due("image of nothing", x.image(), 1);
    flat(x, SMALL);
    x.draw(0, 1, 0, 8);
    x.carry(0, 1, 14);
    due("image", x.image(), 1);
    x.carry(0, 1, 4);
    due("a later one counts", x.image(), 1);
    x.carry(0, 0, 8);
    x.back();
    due("as at the later one", x.thingOf(0, 1, 5) * 100 + x.thingOf(0, 0, 5) + x.flatOf(0, 6), 402);
    x.begin(0, 1);
    x.image();
    due("the SEARCH goes on", x.search(1), 1);
  }

  static void p49() {
    TheOtherRoom x = new TheOtherRoom();
    due("nothing was kept", x.back(), STUCK);
    flat(x, SMALL);
    x.draw(0, 1, 0, 8);
    x.image();
    x.carry(0, 1, 4);
    x.wall(0, 9, true);
    x.wall(0, 11, false);
    x.alter(0, 0, 1);
    x.alter(0, 1, 3);
    x.alter(0, 2, 8);
    x.draw(0, 1, 0, 1);
    x.draw(0, 2, 1, 2);
    x.take(0, 3);
    flat(x, "board 2 by 2");
    feed(x, "abc");
    x.row(4, 2, 1);
    x.set(4, 0, 77);
    x.begin(0, 1);
    x.flatOf(9, 9);
    due("back", x.back(), 1);
    due("FLATS", x.status(0), 1);
    due("stands", x.thingOf(0, 1, 5), 12);
    due("FLOOR", x.floor(0, 0), 0x7FF);
    int[] told = {4, 3, 2, 2, 1, 3, 0, 0, 0};
    for (int i = 0; i < 9; i++) due("flatOf " + i, x.flatOf(0, i), told[i]);
    due("drawn", x.drawn(0, 1, 0), 8);
    due("drawn", x.drawn(0, 2, 1) + x.drawn(0, 3, 0), 2 * NONE);
    due("no SEARCH", x.search(0), STUCK);
    due("no SEARCH", x.step(), STUCK);
    due("THE TAPE", x.status(1), 3);
    due("SHELVES", x.element(4, 0), 77);
    due("REFUSALS", refused(x, BAD) * 10 + refused(x, STUCK), 13);
    x.carry(0, 1, 4);
    due("again", x.back(), 1);
    due("stands", x.thingOf(0, 1, 5), 12);
    x.wipe();
    due("a new FLAT is as it is told", flat(x, "board 3 by 3;thing 1 by 1 at 8") * 100 + x.thingOf(1, 0, 5), 116);
    due("nothing drawn there", x.drawn(1, 1, 0), NONE);
  }

  static void p50() {
    TheOtherRoom x = new TheOtherRoom();
    for (int i = 1; i <= 4; i++) { flat(x, "board 2 by 2"); due("FLATS", x.status(0), i); }
    feed(x, "12345");
    due("THE TAPE's size", x.status(1), 5);
    x.row(0, 0, 0);
    x.move(7, 2, 0, 0);
    due("SHELVES", x.status(2), 2);
    x.row(9, 0, 0);
    x.can(0, 0);
    x.can(0, 0);
    x.can(0, 1);
    x.back();
    x.flat();
    int[] counts = {1, 2, 1, 1, 1};
    for (int i = 0; i < 5; i++) due("status(" + (12 + i) + ")", x.status(12 + i), counts[i]);
    int[] other = {-1, 3, 11, 17, Integer.MIN_VALUE, Integer.MAX_VALUE};
    for (int w : other) due("status(" + w + ")", x.status(w), NONE);
    due("nothing is refused", refused(x, BAD), 1);
  }

  static void one(int n) {
    promise = n;
    switch (n) {
      case 1: p1(); break; case 2: p2(); break; case 3: p3(); break; case 4: p4(); break; case 5: p5(); break;
      case 6: p6(); break; case 7: p7(); break; case 8: p8(); break; case 9: p9(); break; case 10: p10(); break;
      case 11: p11(); break; case 12: p12(); break; case 13: p13(); break; case 14: p14(); break; case 15: p15(); break;
      case 16: p16(); break; case 17: p17(); break; case 18: p18(); break; case 19: p19(); break; case 20: p20(); break;
      case 21: p21(); break; case 22: p22(); break; case 23: p23(); break; case 24: p24(); break; case 25: p25(); break;
      case 26: p26(); break; case 27: p27(); break; case 28: p28(); break; case 29: p29(); break; case 30: p30(); break;
      case 31: p31(); break; case 32: p32(); break; case 33: p33(); break; case 34: p34(); break; case 35: p35(); break;
      case 36: p36(); break; case 37: p37(); break; case 38: p38(); break; case 39: p39(); break; case 40: p40(); break;
      case 41: p41(); break; case 42: p42(); break; case 43: p43(); break; case 44: p44(); break; case 45: p45(); break;
      case 46: p46(); break; case 47: p47(); break; case 48: p48(); break; case 49: p49(); break; default: p50(); break;
    }
  }

  public static void main(String[] args) {
    for (int n = 1; n <= 50; n++) one(n);
    System.out.println("PromiseTests: " + right + " answers as due, " + wrong + " not");
    if (wrong != 0) System.exit(1);
  }
}
