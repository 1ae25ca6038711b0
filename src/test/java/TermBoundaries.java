import java.util.List;

/** Each sentence of the document's Terms that names a boundary has a test of its own here. */
public final class TermBoundaries {
  static final int NONE = -1, BAD = -2, OTHER = -3, NOTHING = -4, STUCK = -5, FULL = -6;
  static final String SIX = "board 8 by 8;thing 1 by 1 at 0;thing 1 by 1 at 1;thing 1 by 1 at 2;thing 1 by 1 at 3;"
      + "thing 1 by 1 at 4;thing 1 by 1 at 5";

  static void sentence(String words) { Sentences.sentence(words); }
  static void due(String what, long got, long want) { Sentences.due(what, got, want); }
  static TheOtherRoom with(String... texts) { return Sentences.with(texts); }

  /** A text that is a FLAT. */
  static TheOtherRoom reads(String text) { return with(text); }

  /** A text that has a FAULT at a place. */
  static void fault(String text, int place) {
    due("flat(" + text + ")", Sentences.flat(new TheOtherRoom(), text), -20 - place);
  }

  /** The last NUMBER of a text is the FAULT. */
  static void faultAtLastNumber(String text) { fault(text, text.lastIndexOf(' ') + 1); }

  static String padded(String text, int size) {
    StringBuilder b = new StringBuilder(text);
    while (b.length() < size) b.append(' ');
    return b.toString();
  }

  // ---- FLATS and THE TAPE

  static void numbersOfFlats() {
    sentence("FLATS have numbers, 0 on, 4 at most");
    TheOtherRoom x = new TheOtherRoom();
    for (int i = 0; i < 4; i++) {
      due("none so far of number " + i, x.flatOf(i, 0), BAD);
      due("the next number", Sentences.flat(x, "board 2 by " + (2 + i)), i);
    }
    due("a fifth", Sentences.flat(x, "board 2 by 2"), FULL);
    for (int i = 0; i < 4; i++) due("each for itself", x.flatOf(i, 1), 2 + i);
    due("no number 4", x.flatOf(4, 0), BAD);
  }

  static void tape() {
    sentence("THE TAPE (bytes, 200 at most)");
    due("the 200th byte is read", reads(padded("board 2 by ", 199) + "3").flatOf(0, 1), 3);
    fault(padded("board 2 by 2", 199) + "x", 199);
    fault(padded("board 2 by 2", 199) + ";", 200);
    TheOtherRoom x = new TheOtherRoom();
    Sentences.feed(x, padded("board 2 by 2", 200));
    due("200 bytes", x.status(1), 200);
    due("one byte more", x.feed('x', 1), FULL);
    due("those 200 bytes", x.flat(), 0);
  }

  // ---- TOKENS

  static void tokens() {
    sentence("TOKENS, each as long as can be");
    fault("boardby 2 by 2", 0);
    fault("board 2 byby 2", 8);
    fault("board 2 by 22", 11);
    fault("board 2 by 2;wall 12", 18);
    fault("board 2 by 2;wallwall 1", 13);
    fault("board 2 by 2;hands 3hands 3", 20);
    reads("board2by2;wall3;thing1by2at0turned");
    sentence("WORDS (a .. z), NUMBERS (digits), the SIGN ; - blanks (32) may stand anywhere between.");
    for (int b = 0; b < 256; b++) {
      char c = (char) b;
      String behind = "board 2 by 2;wall 0" + c, inside = "board 2 by 2;wall" + c + "0";
      boolean word = c >= 'a' && c <= 'z', digit = c >= '0' && c <= '9';
      // a digit makes the NUMBER longer, a letter the WORD
      if (c == ' ' || digit && c <= '3') reads(behind);
      else fault(behind, digit ? 18 : c == ';' ? 20 : 19);
      if (c == ' ' || c == '0') reads(inside);
      else fault(inside, word ? 13 : 17);
    }
    String text = "board 2 by 3;wall 0;hands 1;landing 1 door 1;thing 1 by 1 at 1 heavy 1 fixed plain;thing 1 by 2 at 2 turned";
    reads(text);
    for (int i = 0, start = 0; i < text.length(); i++) {
      char c = text.charAt(i);
      boolean letter = c >= 'a' && c <= 'z';
      if (letter && (i == 0 || !Character.isLetter(text.charAt(i - 1)))) start = i;
      if (!letter) continue;
      fault(text.substring(0, i) + 'q' + text.substring(i + 1), start);
      fault(text.substring(0, i) + c + c + text.substring(i + 1), start);
      fault(text.substring(0, i) + text.substring(i + 1), start);
    }
    sentence("blanks (32) may stand anywhere between");
    reads("   board   2   by   2   ;   hands   1   ;   landing   0   door   3   ;   thing   1   by   1   at   0   ");
    reads("board2by2;hands1;landing0door3;thing1by1at0heavy1fixed");
    fault("bo ard 2 by 2", 0);
    fault("board 2 b y 2", 8);
    fault("board 2 by 2;wall 0 2", 20);
    fault("board 0 2 by 2", 6);
  }

  static void faults() {
    sentence("The FAULT: the place of the first byte of the first TOKEN that can't stand there");
    fault("2 board", 0);
    fault("   ;", 3);
    fault("board 9 by 9", 6);
    fault("board 8 by 9;x", 11);
    fault("board 2 by 2;wall 9;wall 8", 18);
    fault("board 2 by 2;;wall 9", 13);
    fault("board 2 by 2;hands 1 hands 4", 21);
    fault("board 2 by 2;thing 2 by 1 at 1 heavy 4 x", 29);
    sentence("(also a NUMBER that may not be, or has more than 2 digits;");
    reads("board 02 by 08;wall 00;hands 01");
    fault("board 002 by 8", 6);
    fault("board 2 by 002", 11);
    fault("board 2 by 2;wall 000", 18);
    fault("board 2 by 2;wall 100", 18);
    fault("board 2 by 2;wall 00000000000000000000001", 18);
    fault("board 2 by 2;wall 4294967296", 18);
    fault("board 8 by 8;wall 64", 18);
    fault("board 8 by 8;wall 99", 18);
    sentence("a byte that begins none;");
    fault("board 2 by 2-", 12);
    fault("board -2 by 2", 6);
    fault("Board 2 by 2", 0);
    fault("board 2 by 2;wall 0\u0000", 19);
    fault("board 2 by 2;wall\u00ff0", 17);
    sentence("of a THING that can't stand so: the NUMBER behind at)");
    fault("board 3 by 2;thing 2 by 1 at 2", 29);
    fault("board 3 by 2;thing 2 by 1 at 3 turned", 29);
    fault("board 3 by 2;thing 2 by 2 at 0 turned", 29);
    fault("board 3 by 2;wall 1;thing 2 by 1 at 0", 36);
    fault("board 3 by 2;wall 3;thing 2 by 1 at 0 turned", 36);
    fault("board 3 by 2;thing 1 by 1 at 1;thing 2 by 1 at 0", 47);
    fault("board 3 by 2;thing 3 by 1 at 0;thing 3 by 1 at 0", 47);
    fault("board 3 by 2;thing 1 by 1 at 6", 29);
    sentence("THE TAPE's size, if it ends too early.");
    String whole = "board 2 by 2;thing 1 by 1 at 0 heavy 1;landing 1 door 1;wall 3";
    // behind these places it may end; between 0 and 1 heavy, at 0, .. too
    List<String> ends = List.of("board 2 by 2", "board 2 by 2;thing 1 by 1 at 0", "board 2 by 2;thing 1 by 1 at 0 heavy 1",
        "board 2 by 2;thing 1 by 1 at 0 heavy 1;landing 1 door 1", whole);
    String[] parts = whole.replace(";", " ; ").split(" +");
    StringBuilder told = new StringBuilder();
    for (String part : parts) {
      told.append(part);
      boolean may = false;
      for (String end : ends) may |= told.toString().replace(" ", "").equals(end.replace(" ", ""));
      for (int blanks = 0; blanks <= 2; blanks++) {
        String text = padded(told.toString(), told.length() + blanks);
        if (may) reads(text);
        else fault(text, text.length());
      }
      told.append(' ');
    }
    fault("", 0);
    fault("    ", 4);
  }

  // ---- STATEMENTS

  static void board() {
    sentence("STATEMENTS with ; between: the first one board W by H (2 to 8 each)");
    for (int n = 0; n <= 99; n++) {
      boolean may = n >= 2 && n <= 8;
      if (may) {
        due("W", reads("board " + n + " by 2").flatOf(0, 0), n);
        due("H", reads("board 2 by " + n).flatOf(0, 1), n);
      } else {
        fault("board " + n + " by 2", 6);
        fault("board 2 by " + n, 11);
      }
    }
    for (String other : new String[] {"wall 0", "thing 1 by 1 at 0", "hands 1", "landing 0 door 0", ""})
      fault(other + ";board 2 by 2", 0);
    fault("board 2 by 2;board 2 by 2", 13);
    fault("board 2 by 2 wall 0", 13);
    fault("board 2 by 2 wall 0;", 13);
    fault("board 2 by 2;wall 0;", 20);
    sentence("CELLS 0 to W times H less 1, row by row, each of W");
    for (int w = 2; w <= 8; w++)
      for (int h = 2; h <= 8; h++) {
        TheOtherRoom x = reads("board " + w + " by " + h + ";thing 1 by 2 at 0");
        long all = 0;
        for (int c = 0; c < w * h; c++) all |= 1L << c;
        due("all are FLOOR", x.floor(0, 0), all);
        due("the last CELL", x.at(0, w * h - 1), NONE);
        due("none behind it", x.at(0, w * h), BAD);
        due("none ahead of 0", x.at(0, -1), BAD);
        due("the next row is W on", x.covers(0, 0, 0), 1L | 1L << w);
      }
  }

  static void walls() {
    sentence("any number of wall N (a CELL no THING covers: no FLOOR; all others are)");
    due("no wall", reads("board 3 by 2").floor(0, 0), 0x3F);
    for (int c = 0; c < 6; c++) due("one", reads("board 3 by 2;wall " + c).floor(0, 0), 0x3F & ~(1 << c));
    faultAtLastNumber("board 3 by 2;wall 6");
    due("CELL 63", reads("board 8 by 8;wall 63").floor(0, 0), Long.MAX_VALUE);
    faultAtLastNumber("board 8 by 8;wall 64");
    due("all", reads("board 3 by 2;wall 0;wall 1;wall 2;wall 3;wall 4;wall 5").floor(0, 0), 0);
    StringBuilder many = new StringBuilder("board 2 by 2");
    while (many.length() + 7 <= 200) many.append(";wall 1");
    due("as many as THE TAPE holds, all the same", reads(many.toString()).floor(0, 0), 0xD);
    for (int c = 0; c < 6; c++) {
      String text = "board 3 by 2;thing 2 by 1 at 1;wall " + c;
      if (c == 1 || c == 2) faultAtLastNumber(text);
      else due("beside a THING", reads(text).floor(0, 0), 0x3F & ~(1 << c));
    }
  }

  static void things() {
    sentence("thing W by H at N (W, H 1 to 3)");
    for (int w = 0; w <= 10; w++)
      for (int h = 0; h <= 10; h++) {
        String text = "board 3 by 3;thing " + w + " by " + h + " at 0";
        if (w < 1 || w > 3) fault(text, 19);
        else if (h < 1 || h > 3) fault(text, 24);
        else due("W, H", reads(text).thingOf(0, 0, 0) * 10 + reads(text).thingOf(0, 0, 1), 10 * w + h);
      }
    for (int c = 0; c < 6; c++) due("at", reads("board 3 by 2;thing 1 by 1 at " + c).thingOf(0, 0, 5), 2 * c);
    for (int c = 6; c <= 99; c++) faultAtLastNumber("board 3 by 2;thing 1 by 1 at " + c);
    sentence("then perhaps, in this order, turned, heavy N (1 to 3; 1 if not told), fixed, plain");
    String[] told = {" turned", " heavy 2", " fixed", " plain"};
    String thing = "board 3 by 3;thing 2 by 1 at 0";
    for (int some = 0; some < 16; some++) {
      StringBuilder text = new StringBuilder(thing);
      for (int i = 0; i < 4; i++) if ((some >> i & 1) == 1) text.append(told[i]);
      TheOtherRoom x = reads(text.toString());
      due("turned", x.thingOf(0, 0, 5), some & 1);
      due("heavy", x.thingOf(0, 0, 2), 1 + (some >> 1 & 1));
      due("fixed", x.thingOf(0, 0, 3), some >> 2 & 1);
      due("plain", x.thingOf(0, 0, 4), some >> 3 & 1);
    }
    for (int i = 0; i < 4; i++)
      for (int j = 0; j <= i; j++) fault(thing + told[i] + told[j], thing.length() + told[i].length() + 1);
    for (int n = 0; n <= 99; n++) {
      String text = thing + " heavy " + n;
      if (n >= 1 && n <= 3) due("heavy", reads(text).thingOf(0, 0, 2), n);
      else faultAtLastNumber(text);
    }
    fault(thing + " heavy fixed", thing.length() + 7);
    sentence("a THING more (6 at most)");
    due("none", reads("board 3 by 3").flatOf(0, 2), 0);
    StringBuilder text = new StringBuilder("board 3 by 3");
    for (int i = 0; i < 6; i++) {
      text.append(";thing 1 by 1 at ").append(i);
      due("THINGS", reads(text.toString()).flatOf(0, 2), i + 1);
    }
    fault(text + ";thing 1 by 1 at 6", text.length() + 1);
    fault(text + ";hands 1;thing", text.length() + 9);
  }

  static void handsAndLanding() {
    sentence("hands N (1 to 3; 2 at first)");
    due("at first", reads("board 2 by 2").flatOf(0, 3), 2);
    for (int n = 0; n <= 99; n++) {
      if (n >= 1 && n <= 3) due("hands", reads("board 2 by 2;hands " + n).flatOf(0, 3), n);
      else faultAtLastNumber("board 2 by 2;hands " + n);
    }
    sentence("landing N (0 to 3) door N (a CELL), both in one (0, 0 at first)");
    TheOtherRoom x = reads("board 3 by 2");
    due("at first", x.flatOf(0, 4) * 10 + x.flatOf(0, 5), 0);
    for (int n = 0; n <= 99; n++) {
      String text = "board 3 by 2;landing " + n + " door 1", door = "board 3 by 2;landing 1 door " + n;
      if (n <= 3) due("landing", reads(text).flatOf(0, 4), n);
      else fault(text, 21);
      if (n <= 5) due("door", reads(door).flatOf(0, 5), n);
      else faultAtLastNumber(door);
    }
    fault("board 3 by 2;landing 1", 22);
    fault("board 3 by 2;landing 1;door 1", 22);
    fault("board 3 by 2;door 1", 13);
    fault("board 3 by 2;door 1 landing 1", 13);
    fault("board 3 by 2;landing door 1", 21);
    due("a door that is a wall", reads("board 3 by 2;wall 5;landing 1 door 5").flatOf(0, 5), 5);
    sentence("What is told later counts.");
    x = reads("board 3 by 2;hands 3;landing 3 door 5;hands 1;landing 0 door 2;wall 0;wall 0");
    due("hands", x.flatOf(0, 3), 1);
    due("landing", x.flatOf(0, 4), 0);
    due("door", x.flatOf(0, 5), 2);
    fault("board 3 by 2;thing 1 by 1 at 0;wall 0", 36);
    fault("board 3 by 2;hands 4;hands 1", 19);
  }

  // ---- how a THING STANDS, and its STEPS

  /** CELLS (bits) of something w by h at a CELL; 0: it would stand out over the board's edge. */
  static long cells(int boardW, int boardH, int cell, int w, int h) {
    if (cell < 0 || cell >= boardW * boardH || cell % boardW + w > boardW || cell / boardW + h > boardH) return 0;
    long all = 0;
    for (int y = 0; y < h; y++) for (int x = 0; x < w; x++) all |= 1L << (cell + y * boardW + x);
    return all;
  }

  static final int[][] BOARDS = {{2, 2}, {3, 2}, {2, 3}, {4, 3}, {8, 2}, {2, 8}, {7, 8}, {8, 8}};

  static int can(TheOtherRoom x, int kind, int thing, int told) {
    x.move(7, kind, thing, told);
    return x.can(0, 7);
  }

  static int make(TheOtherRoom x, int kind, int thing, int told) {
    x.move(7, kind, thing, told);
    return x.make(0, 7);
  }

  static void spots() {
    sentence("A THING STANDS at a SPOT (told as 2 times a CELL, and 1 if it is turned), or on the LANDING (told as 200).");
    TheOtherRoom x = reads("board 3 by 2;landing 1 door 0;thing 2 by 1 at 0");
    for (int told = -3; told <= 210; told++) {
      boolean turned = Math.floorMod(told, 2) == 1;
      boolean may = told == 200 || cells(3, 2, Math.floorDiv(told, 2), turned ? 1 : 2, turned ? 2 : 1) != 0;
      due("put(0, 0, " + told + ")", x.put(0, 0, told), may ? 1 : BAD);
      if (may) due("it STANDS so", x.thingOf(0, 0, 5), told);
    }
    TheOtherRoom y = reads("board 8 by 8;thing 1 by 1 at 63;thing 2 by 1 at 0 turned");
    due("the last CELL", y.thingOf(0, 0, 5), 126);
    due("the first one, turned", y.thingOf(0, 1, 5), 1);
  }

  static void covered() {
    sentence("At a SPOT it covers W times H CELLS, the told one leftmost and uppermost (turned: H times W)");
    for (int[] b : BOARDS)
      for (int w = 1; w <= 3; w++)
        for (int h = 1; h <= 3; h++) {
          if (w > b[0] || h > b[1]) continue;
          TheOtherRoom x = reads("board " + b[0] + " by " + b[1] + ";thing " + w + " by " + h + " at 0");
          for (int spot = -4; spot <= 202; spot++) {
            boolean turned = Math.floorMod(spot, 2) == 1;
            long want = turned && w == h ? 0
                : cells(b[0], b[1], Math.floorDiv(spot, 2), turned ? h : w, turned ? w : h);
            due("covers(0, 0, " + spot + ") of " + w + " by " + h + " on " + b[0] + " by " + b[1],
                x.covers(0, 0, spot), want);
          }
        }
  }

  static void standing() {
    sentence("all must be of the board, FLOOR, and not covered by another one.");
    // 0 0 . .
    // . . 1 .
    // . . . #
    TheOtherRoom x = reads("board 4 by 3;wall 11;thing 2 by 1 at 0;thing 1 by 1 at 6");
    for (int spot = 0; spot < 24; spot++) {
      long mask = cells(4, 3, spot / 2, 2 - spot % 2, 1 + spot % 2);
      int want = mask == 0 ? BAD : (mask & (1 << 11 | 1 << 6)) != 0 ? STUCK : 1;
      // its own CELLS are in nobody's way
      due("put(0, 0, " + spot + ")", x.put(0, 0, spot), want);
    }
    sentence("A THING for which W is H is never turned.");
    for (int n = 1; n <= 3; n++) {
      String text = "board 3 by 3;thing " + n + " by " + n + " at 0";
      fault(text + " turned", 29);
      TheOtherRoom y = reads(text);
      due("put", y.put(0, 0, 1), BAD);
      due("draw", y.draw(0, 0, 0, 1), BAD);
      due("steps", y.steps(0, 0, 1), BAD);
      due("carry", y.carry(0, 0, 1), BAD);
      due("covers", y.covers(0, 0, 1), 0);
      due("TURN", can(y, 2, 0, 0), 0);
      due("CARRY", can(y, 3, 0, 1), 0);
    }
  }

  static void slides() {
    sentence("a SLIDE: to the CELL beside in the same row or column");
    int[] dx = {0, 1, 0, -1}, dy = {-1, 0, 1, 0};
    for (int[] b : BOARDS)
      for (int c = 0; c < b[0] * b[1]; c++) {
        TheOtherRoom x = reads("board " + b[0] + " by " + b[1] + ";thing 1 by 1 at " + c);
        for (int d = 0; d < 4; d++) {
          int toX = c % b[0] + dx[d], toY = c / b[0] + dy[d];
          boolean may = toX >= 0 && toX < b[0] && toY >= 0 && toY < b[1];
          due("SLIDE " + d + " from " + c, can(x, 1, 0, d), may ? 1 : 0);
          due("SLIDE " + d + " from " + c, make(x, 1, 0, d), may ? 1 : STUCK);
          due("it STANDS so", x.thingOf(0, 0, 5), 2 * (may ? toY * b[0] + toX : c));
          x.put(0, 0, 2 * c);
        }
      }
    TheOtherRoom x = reads("board 3 by 2;thing 2 by 1 at 1;thing 1 by 1 at 3");
    due("its right end is at the board's", can(x, 1, 0, 1), 0);
    due("no row's end is beside the next one's start", x.steps(0, 0, 6), NONE);
    due("no row's end is beside the next one's start", can(x, 1, 1, 3), 0);
    TheOtherRoom y = reads("board 3 by 3;thing 2 by 1 at 0 turned");
    due("turned ones", make(y, 1, 0, 1) * 100 + y.thingOf(0, 0, 5), 103);
    due("turned ones", make(y, 1, 0, 2) * 100 + y.thingOf(0, 0, 5), 109);
    due("turned ones, at the end", make(y, 1, 0, 2), STUCK);
  }

  static void turns() {
    sentence("a TURN (not of plain ones, nor if W is H): turned the other way, the CELL stays");
    for (int c = 0; c < 8; c++) {
      if (c % 3 == 2) continue;
      TheOtherRoom x = reads("board 3 by 3;thing 2 by 1 at " + c);
      boolean may = c < 6;
      due("TURN at " + c, make(x, 2, 0, 0), may ? 1 : STUCK);
      due("the CELL stays", x.thingOf(0, 0, 5), 2 * c + (may ? 1 : 0));
      due("TURN back", make(x, 2, 0, 0), may ? 1 : STUCK);
      due("the CELL stays", x.thingOf(0, 0, 5), 2 * c);
    }
    due("plain", can(reads("board 3 by 3;thing 2 by 1 at 0 plain"), 2, 0, 0), 0);
    due("plain, turned", can(reads("board 3 by 3;thing 2 by 1 at 0 turned plain"), 2, 0, 0), 0);
    for (int n = 1; n <= 3; n++)
      due("W is H", can(reads("board 3 by 3;thing " + n + " by " + n + " at 0"), 2, 0, 0), 0);
    due("a wall in the way", can(reads("board 3 by 3;thing 2 by 1 at 0;wall 3"), 2, 0, 0), 0);
    due("another in the way", can(reads("board 3 by 3;thing 2 by 1 at 0;thing 1 by 1 at 3"), 2, 0, 0), 0);
    due("nothing in the way", can(reads("board 3 by 3;thing 2 by 1 at 0;thing 1 by 1 at 4"), 2, 0, 0), 1);
  }

  static void outAndIn() {
    sentence("OUT: if it covers the DOOR, to the LANDING, if fewer than landing are there");
    for (int landing = 0; landing <= 3; landing++)
      for (int there = 0; there <= landing; there++) {
        TheOtherRoom x = reads("board 3 by 2;landing " + landing + " door 1;thing 2 by 1 at 0;thing 1 by 1 at 3;"
            + "thing 1 by 1 at 4;thing 1 by 1 at 5");
        for (int i = 1; i <= there; i++) x.put(0, i, 200);
        due("OUT", can(x, 4, 0, 0), there < landing ? 1 : 0);
        due("OUT", make(x, 4, 0, 0), there < landing ? 1 : STUCK);
        due("on the LANDING", x.flatOf(0, 8), Math.min(landing, there + 1));
        due("not from there", can(x, 4, 1, 0), 0);
      }
    for (int door = 0; door < 6; door++) {
      TheOtherRoom x = reads("board 3 by 2;landing 1 door " + door + ";thing 2 by 1 at 1");
      due("the DOOR is " + door, can(x, 4, 0, 0), door == 1 || door == 2 ? 1 : 0);
    }
    sentence("IN: from the LANDING to a SPOT at which it covers the DOOR (turned or not; plain ones only as they were told).");
    String[] kinds = {"", " plain", " turned plain"};
    for (int k = 0; k < 3; k++)
      for (int turned = 0; turned < 2; turned++) {
        TheOtherRoom x = reads("board 4 by 3;landing 1 door 5;thing 2 by 1 at 0" + kinds[k]);
        due("not from a SPOT", can(x, 5, 0, 10), 0);
        x.put(0, 0, 200);
        for (int spot = turned; spot < 128; spot += 2) {
          long mask = cells(4, 3, spot / 2, 2 - turned, 1 + turned);
          boolean may = (mask >> 5 & 1) != 0 && (k == 0 || turned == k - 1);
          due("IN " + spot + kinds[k], can(x, 5, 0, spot), may ? 1 : 0);
        }
      }
    TheOtherRoom x = reads("board 4 by 3;landing 1 door 5;thing 2 by 1 at 0 plain");
    x.put(0, 0, 1);
    x.put(0, 0, 200);
    due("told on THE TAPE, not by put", can(x, 5, 0, 10) * 10 + can(x, 5, 0, 11), 10);
    for (int landing = 1; landing <= 3; landing++)
      due("none is on the LANDING", can(reads("board 2 by 2;landing " + landing + " door 0;thing 1 by 1 at 3"), 5, 0, 0), 0);
  }

  static void carries() {
    sentence("A CARRY of a THING that isn't fixed, and not heavier than hands: one or more STEPS to another SPOT,");
    for (int heavy = 1; heavy <= 3; heavy++)
      for (int hands = 1; hands <= 3; hands++) {
        String text = "board 3 by 2;landing 1 door 0;hands " + hands + ";thing 1 by 1 at 0 heavy " + heavy;
        TheOtherRoom x = reads(text), y = reads(text + " fixed");
        due("steps", x.steps(0, 0, 4), heavy <= hands ? 2 : NONE);
        due("reach", x.reach(0, 0), heavy <= hands ? 6 : 0);
        due("SLIDE", can(x, 1, 0, 1), heavy <= hands ? 1 : 0);
        due("OUT", can(x, 4, 0, 0), heavy <= hands ? 1 : 0);
        due("carry", x.carry(0, 0, 4), heavy <= hands ? 2 : STUCK);
        due("a fixed one", y.steps(0, 0, 4) + y.reach(0, 0) + can(y, 1, 0, 1) + y.carry(0, 0, 4), NONE + STUCK);
      }
    TheOtherRoom x = reads("board 2 by 2;landing 2 door 0;thing 1 by 1 at 0");
    due("no STEP is no CARRY", x.carry(0, 0, 0), STUCK);
    due("one STEP", x.carry(0, 0, 2), 1);
    sentence("or the LANDING (or from it)");
    due("to the LANDING", x.carry(0, 0, 200), 2);
    due("from LANDING to LANDING is none", x.carry(0, 0, 200), STUCK);
    due("from the LANDING", x.carry(0, 0, 6), 3);
    for (int h = 1; h <= 2; h++) {
      TheOtherRoom far = reads("board 8 by 8;landing 1 door 0;thing 1 by " + h + " at 0");
      far.put(0, 0, 200);
      for (int c = 0; c < 64 - 8 * (h - 1); c++)
        due("from the LANDING by the DOOR, to " + c, far.steps(0, 0, 2 * c), 1 + c % 8 + c / 8);
      due("to all SPOTS", far.reach(0, 0), h == 1 ? 64 : 112);
    }
    sentence("It costs the fewest STEPS.");
    TheOtherRoom y = reads("board 3 by 3;wall 4;thing 1 by 1 at 0");
    int[] steps = {0, 1, 2, 1, NONE, 3, 2, 3, 4};
    for (int c = 0; c < 9; c++) due("steps to " + c, y.steps(0, 0, 2 * c), steps[c]);
    due("OUT and IN may be fewer", reads("board 3 by 3;landing 1 door 2;wall 3;wall 4;thing 3 by 1 at 0").steps(0, 0, 5), 2);
    due("the longest way", snake().steps(0, 0, 112), 35);
    longOnes();
  }

  /** CARRIES of those that are turned, plain, or longer than the board is wide. */
  static void longOnes() {
    // . . . D
    // 0 . . .
    // 0 . . .
    TheOtherRoom x = reads("board 4 by 3;landing 1 door 3;thing 2 by 1 at 4 turned");
    due("turned", x.steps(0, 0, 2 * 7 + 1), 3);
    due("and round", x.steps(0, 0, 2 * 10), 4);
    due("to the DOOR, turned, and OUT", x.steps(0, 0, 200), 5);
    due("all SPOTS but its own, and the LANDING", x.reach(0, 0), 9 + 8 - 1 + 1);
    due("it could cover all", x.ever(0, 0), 0xFFF);
    String[] kinds = {"", " plain", " turned plain"};
    int[][] steps = {{2, 3, 1, 2}, {2, 3, NONE, NONE}, {NONE, NONE, 1, 2}};
    for (int k = 0; k < 3; k++) {
      TheOtherRoom y = reads("board 4 by 3;landing 1 door 7;thing 2 by 1 at 0" + kinds[k]);
      y.put(0, 0, 200);
      due("IN and on" + kinds[k], y.steps(0, 0, 2 * 5), steps[k][0]);
      due("IN and on" + kinds[k], y.steps(0, 0, 2 * 4), steps[k][1]);
      due("IN, turned" + kinds[k], y.steps(0, 0, 2 * 7 + 1), steps[k][2]);
      due("IN and on, turned" + kinds[k], y.steps(0, 0, 2 * 6 + 1), steps[k][3]);
      due("all SPOTS, as it may" + kinds[k], y.reach(0, 0), k == 0 ? 17 : k == 1 ? 9 : 8);
    }
    TheOtherRoom plain = reads("board 4 by 3;thing 2 by 1 at 0 plain");
    due("a plain one never turns", plain.steps(0, 0, 1), NONE);
    due("a plain one never turns", plain.reach(0, 0), 8);
    TheOtherRoom tall = reads("board 2 by 3;thing 1 by 3 at 0");
    due("longer than the board is wide", tall.reach(0, 0), 1);
    due("longer than the board is wide", can(tall, 2, 0, 0), 0);
    TheOtherRoom wide = reads("board 3 by 2;thing 3 by 1 at 0");
    due("longer than the board is high", wide.reach(0, 0), 1);
    due("longer than the board is high", can(wide, 2, 0, 0), 0);
    TheOtherRoom bend = reads("board 3 by 3;wall 4;wall 5;wall 7;wall 8;thing 2 by 1 at 0");
    due("round a corner only turned", bend.ever(0, 0), 0x4F);
  }

  /** A way of 36 CELLS on a board of 64, from CELL 0 to CELL 56. */
  static TheOtherRoom snake() {
    TheOtherRoom x = reads("board 8 by 8;thing 1 by 1 at 0");
    for (int c = 0; c < 64; c++) {
      int row = c / 8;
      if (row % 2 == 1 && c != 15 && c != 24 && c != 47 && c != 56) x.wall(0, c, true);
    }
    return x;
  }

  // ---- DRAWINGS and SEARCHES

  static void drawings() {
    sentence("A FLAT has DRAWINGS 0 to 3: for each THING a SPOT, the LANDING (200), or nothing (NONE, at first).");
    Sentences.edges(Sentences::room, "DRAWING", 0, 3, (x, d) -> x.draw(0, d, 0, 4));
    TheOtherRoom x = reads("board 3 by 2;thing 2 by 1 at 0");
    for (int d = 0; d < 4; d++) due("at first", x.drawn(0, d, 0), NONE);
    for (int told = -5; told <= 205; told++) {
      boolean turned = Math.floorMod(told, 2) == 1;
      boolean may = told == NONE || told == 200
          || cells(3, 2, Math.floorDiv(told, 2), turned ? 1 : 2, turned ? 2 : 1) != 0;
      due("draw(0, 3, 0, " + told + ")", x.draw(0, 3, 0, told), may ? 1 : BAD);
    }
    sentence("It is AS DRAWN, if each THING for which something is told STANDS so.");
    TheOtherRoom y = reads("board 3 by 2;landing 1 door 0;thing 2 by 1 at 0;thing 1 by 1 at 5");
    due("nothing is told", y.begin(0, 0), 1);
    y.draw(0, 0, 0, 0);
    due("one is told", y.begin(0, 0), 1);
    y.draw(0, 0, 1, 10);
    due("all are told", y.begin(0, 0), 1);
    y.draw(0, 0, 0, 1);
    due("one is turned", y.begin(0, 0), 0);
    y.put(0, 0, 1);
    due("one is turned", y.begin(0, 0), 1);
    y.draw(0, 0, 1, 200);
    due("the LANDING", y.begin(0, 0), 0);
    y.put(0, 1, 200);
    due("the LANDING", y.begin(0, 0), 1);
    due("no THINGS", reads("board 2 by 2").begin(0, 3), 1);
  }

  /** Three THINGS, each alone in a room of so many CELLS, each drawn elsewhere in it. */
  static TheOtherRoom rooms(int... sizes) {
    TheOtherRoom x = reads("board 8 by 8;thing 1 by 1 at 0;thing 1 by 1 at 24;thing 1 by 1 at 48");
    int[] starts = {0, 24, 48};
    for (int c = 0; c < 64; c++) {
      boolean floor = false;
      for (int i = 0; i < 3; i++) floor |= c >= starts[i] && c < starts[i] + sizes[i];
      if (!floor) x.wall(0, c, true);
    }
    for (int i = 0; i < 3; i++) x.draw(0, 0, i, 2 * starts[i] + 2);
    return x;
  }

  static void layers() {
    sentence("LAYERS: 0: how all STANDS now; k: STATES (how all STANDS) that are in none ahead and come by one CARRY");
    TheOtherRoom x = reads("board 3 by 2;wall 5;thing 1 by 1 at 0");
    x.draw(0, 0, 0, 10);
    x.begin(0, 0);
    due("layer 0", x.search(3), 1);
    due("layer 1", x.step(), 4);
    due("layer 2: all are in those ahead", x.step(), 0);
    due("in all", x.search(3), 5);
    TheOtherRoom y = rooms(2, 3, 4);
    for (int i = 0; i < 3; i++) y.draw(0, 1, i, 126);
    y.begin(0, 1);
    int[] sizes = {6, 11, 6, 0};
    for (int n : sizes) due("a layer", y.step(), n);
    sentence("if layers so far have more than 1,000 STATES together it is SPENT");
    due("1,000 STATES", rooms(10, 10, 10).states(0, 0), 1000);
    due("1,000 STATES", rooms(10, 10, 10).fewest(0, 0), 3);
    due("1,001 STATES", rooms(7, 11, 13).states(0, 0), STUCK);
    TheOtherRoom thousand = rooms(10, 10, 10), more = rooms(7, 11, 13);
    thousand.begin(0, 0);
    more.begin(0, 0);
    int[] ofThousand = {27, 243, 729}, ofMore = {28, 252, 1001};
    for (int i = 0; i < 3; i++) {
      due("a layer of 1,000", thousand.step(), ofThousand[i]);
      due("a layer of 1,001", more.step(), ofMore[i]);
    }
    due("1,000: FOUND", thousand.search(4) * 10000 + thousand.search(3), 11000);
    due("1,001: SPENT", more.search(4) * 10000 + more.search(3), 31001);
    TheOtherRoom late = reads("board 4 by 3;thing 1 by 1 at 10;thing 1 by 1 at 6;thing 1 by 1 at 11");
    for (int i = 0; i < 3; i++) late.draw(0, 0, i, new int[] {4, 6, 18}[i]);
    due("1,000 by one STATE of the layer ahead, more by the next", late.fewest(0, 0), STUCK);
    sentence("else, if one of the layer is AS DRAWN, it is FOUND: FEWEST is k");
    due("in the layer by which it is SPENT", rooms(7, 11, 13).fewest(0, 0), STUCK);
    for (int i = 0; i < 3; i++) {
      TheOtherRoom z = rooms(7, 11, 13);
      for (int k = 0; k <= i; k++) z.draw(0, 0, k, NONE);
      due("in a layer ahead of that", z.fewest(0, 0), 2 - i);
    }
    TheOtherRoom six = reads(SIX);
    six.draw(0, 0, 5, 126);
    due("in layer 1, though layer 2 has more than 1,000", six.fewest(0, 0), 1);
    six.draw(0, 0, 4, 124);
    due("in layer 2, which has more than 1,000", six.fewest(0, 0), STUCK);
  }

  static final String PUZZLE = "board 3 by 2;thing 1 by 1 at 0;thing 1 by 1 at 1;thing 1 by 1 at 2;thing 1 by 1 at 3;"
      + "thing 1 by 1 at 4";
  /** CARRIES round and round, as one CELL alone is free: by THING, and where it goes. */
  static final int[][] ROUND = {{2, 10}, {1, 4}, {0, 2}, {3, 0}, {4, 6}, {2, 8}, {1, 10}, {0, 4}};

  static void sixLayers() {
    sentence("layer by layer, 0 to 6");
    TheOtherRoom x = with(PUZZLE, PUZZLE);
    for (int k = 0; k <= 7; k++) {
      x.take(0, 0);
      for (int i = 0; i < 5; i++) x.draw(1, 0, i, x.drawn(0, 0, i));
      due("by " + k + " CARRIES", x.fewest(1, 0), k <= 6 ? k : NONE);
      due("STEPS of " + k + " CARRIES", x.least(1, 0), k <= 6 ? k : NONE);
      due("the first of " + k, x.first(1, 0), k >= 1 && k <= 6 ? 2010 : NONE);
      due("one STEP", x.carry(0, ROUND[k][0], ROUND[k][1]), 1);
    }
    sentence("If a layer has none, or behind layer 6: there is none.");
    TheOtherRoom y = reads("board 2 by 2;thing 1 by 1 at 0;thing 1 by 1 at 3 fixed;wall 1;wall 2");
    y.draw(0, 0, 0, 2);
    due("layer 1 has none", y.fewest(0, 0), NONE);
    y.begin(0, 0);
    due("it goes on", y.search(4), 0);
    due("layer 1 has none", y.step(), 0);
    due("there is none", y.search(4), 2);
    due("at its end", y.step(), STUCK);
    TheOtherRoom z = with(PUZZLE, PUZZLE);
    for (int k = 0; k < 7; k++) z.carry(1, ROUND[k][0], ROUND[k][1]);
    z.take(1, 0);
    for (int i = 0; i < 5; i++) z.draw(0, 0, i, z.drawn(1, 0, i));
    z.begin(0, 0);
    for (int k = 1; k <= 6; k++) {
      due("it goes on", z.search(4), 0);
      due("layer " + k + " has some", z.step() > 0 ? 1 : 0, 1);
    }
    due("behind layer 6 there is none", z.search(2) * 10 + z.search(4), 62);
    due("at its end", z.step(), STUCK);
  }

  static void first() {
    sentence("LEAST: the fewest STEPS of k CARRIES in all by which one that is AS DRAWN comes");
    TheOtherRoom x = reads("board 4 by 3;thing 1 by 1 at 0;thing 1 by 1 at 1;wall 5");
    x.draw(0, 0, 0, 4);
    due("one long CARRY, not two short ones", x.fewest(0, 0) * 100 + x.least(0, 0), 106);
    sentence("the one whose first CARRY is least (by THING, then by what is told)");
    TheOtherRoom y = reads("board 4 by 2;thing 1 by 1 at 7;thing 1 by 1 at 0");
    y.draw(0, 0, 0, 12);
    y.draw(0, 0, 1, 2);
    due("by THING, though 2 is less than 12", y.first(0, 0), 12);
    // # . #
    // 0 1 .   1 may go north, south or OUT
    // # . #
    String cross = "board 3 by 3;landing 1 door 4;wall 0;wall 2;wall 6;wall 8;thing 1 by 1 at 3;thing 1 by 1 at 4";
    TheOtherRoom z = reads(cross);
    z.draw(0, 0, 0, 10);
    due("by what is told: 2 of 2, 14, 200", z.first(0, 0), 1002);
    z.wall(0, 1, true);
    due("14 of 14, 200", z.first(0, 0), 1014);
    z.wall(0, 7, true);
    due("200 alone", z.first(0, 0), 1200);
    z.alter(0, 1, 0);
    due("none", z.first(0, 0), NONE);
    // 0 to 0 costs 2, to 1 costs 1, and in the end both cost the same: its first STATE is bettered in a layer
    TheOtherRoom both = reads("board 3 by 2;thing 1 by 1 at 2;thing 1 by 1 at 3");
    both.draw(0, 0, 0, 6);
    both.draw(0, 0, 1, 4);
    due("three CARRIES", both.fewest(0, 0) * 10 + both.least(0, 0), 36);
    due("0 is the least of 0 and 2", both.first(0, 0), 0);
    TheOtherRoom w = reads("board 3 by 3;wall 0;wall 2;wall 6;wall 8;thing 1 by 1 at 4;thing 1 by 1 at 3");
    w.draw(0, 0, 1, 10);
    due("THING 0 is the one in the way", w.first(0, 0), 2);
  }

  static void waits() {
    sentence("WAITS: a THING that isn't as drawn waits for those others (not drawn as they stand) that cover a CELL it is drawn to cover.");
    // 0 0 1 2
    // . . . 3
    TheOtherRoom x = reads("board 4 by 2;landing 1 door 0;thing 2 by 1 at 0;thing 1 by 1 at 2;thing 1 by 1 at 3;thing 1 by 1 at 7");
    x.draw(0, 0, 0, 4);
    due("those that cover a CELL of it, nothing being told of them", x.waits(0, 0, 0), 6);
    x.draw(0, 0, 1, 4);
    due("not one drawn as it stands", x.waits(0, 0, 0), 4);
    x.draw(0, 0, 0, 0);
    due("as drawn it waits for none", x.waits(0, 0, 0), 0);
    x.draw(0, 0, 0, 2);
    due("not for itself", x.waits(0, 0, 0), 0);
    x.draw(0, 0, 0, 200);
    due("not for the LANDING", x.waits(0, 0, 0), 0);
    due("nothing is told of it", x.waits(0, 0, 3), 0);
    sentence("A RING: THINGS of which each waits in the end for itself.");
    due("no RING", x.rings(0, 0), 0);
    x.draw(0, 0, 0, 4);
    x.draw(0, 0, 1, 6);
    x.draw(0, 0, 2, 14);
    due("a row is none", x.rings(0, 0), 0);
    x.draw(0, 0, 3, 2);
    due("a RING of all", x.rings(0, 0), 15);
    x.draw(0, 0, 2, 4);
    due("3 and 0 wait for a RING, and none for them", x.rings(0, 0), 6);
    sentence("FLOOR that no fixed THING covers, CELLS that lie beside each other in a row or column hang together.");
    TheOtherRoom y = reads("board 3 by 3;thing 3 by 1 at 3 fixed;thing 3 by 1 at 0;wall 7");
    due("parted by a fixed one and a wall", y.parts(0), 3);
    y.wall(0, 7, false);
    due("beside each other in a row", y.parts(0), 2);
    y.put(0, 1, 12);
    due("one that isn't fixed parts nothing", y.parts(0), 2);
    y.alter(0, 1, 1);
    y.put(0, 0, 200);
    due("nor does one on the LANDING", y.parts(0), 1);
  }

  // ---- SHELVES and MOVES

  static void shelves() {
    sentence("SHELVES 0 to 7 hold NOTHING (at first), a ROW, or a MOVE.");
    TheOtherRoom x = new TheOtherRoom();
    for (int s = 0; s < 8; s++) {
      due("NOTHING at first", x.holds(s), NONE);
      due("a ROW", x.row(s, 2, 1) * 10 + x.holds(s), 12);
      due("a MOVE", x.move(s, 1, 0, 0) * 100 + x.holds(s), 111);
    }
    due("all hold something", x.status(2), 8);
    Sentences.edges(TheOtherRoom::new, "row of SHELF", 0, 7, (y, s) -> y.row(s, 0, 1));
    Sentences.edges(TheOtherRoom::new, "move of SHELF", 0, 7, (y, s) -> y.move(s, 1, 0, 0));
    sentence("A ROW has a SORT (0 bytes, 1 shorts, 2 ints, 3 longs, 4 booleans) and 0 to 40 elements (0, or not so, at first)");
    for (int sort = 0; sort <= 4; sort++) {
      TheOtherRoom y = new TheOtherRoom();
      due("40 elements", y.row(0, sort, 40), 1);
      for (int i = 0; i < 40; i++) due("0 at first", y.element(0, i), 0);
      for (int i = 0; i < 40; i++) due("set", y.set(0, i, -1), 1);
      due("no element 40", y.set(0, 40, -1), BAD);
      due("a new one", y.row(0, sort, 40), 1);
      for (int i = 0; i < 40; i++) due("0 at first", y.element(0, i), 0);
      due("no elements", y.row(0, sort, 0), 1);
      due("it holds a ROW", y.holds(0), sort);
      due("no element 0", y.set(0, 0, -1), BAD);
    }
    lowestBits();
  }

  static void lowestBits() {
    sentence("what is put in keeps its lowest bits (of booleans: whether it is not 0)");
    long[] all = {0, 1, -1, 2, 127, 128, 255, 256, -128, -129, 32767, 32768, 65535, 65536, -32768, -32769, 0x7FFFFFFFL,
      0x80000000L, 0xFFFFFFFFL, 0x100000000L, -0x80000000L, -0x80000001L, Long.MAX_VALUE, Long.MIN_VALUE, 0x123456789ABCDEFL,
      0x00FF00FF00FF00FFL, 0x8080808080808080L};
    TheOtherRoom x = new TheOtherRoom();
    for (int sort = 0; sort <= 4; sort++) x.row(sort, sort, 1);
    for (long v : all) {
      long[] want = {(byte) v, (short) v, (int) v, v, v == 0 ? 0 : 1};
      for (int sort = 0; sort <= 4; sort++) {
        due("set " + v, x.set(sort, 0, v), 1);
        due("sort " + sort + " of " + v, x.element(sort, 0), want[sort]);
      }
    }
    sentence("told they are numbers (1, 0)");
    x.row(0, 4, 2);
    x.row(1, 4, 2);
    x.set(0, 1, 256);
    x.copy(0, 1, 0, 0, 2);
    due("so", x.element(1, 1), 1);
    due("not so", x.element(1, 0), 0);
    x = reads("board 2 by 2;thing 1 by 2 at 0");
    x.row(0, 4, 2);
    x.set(0, 0, 77);
    // as CARRIES: THING 0 to SPOT 1, which is a TURN, and back to SPOT 0
    due("1 and 0 can be", x.judge(0, 0, 2), NONE);
    due("1 and 0 cost", x.cost(0, 0, 2), 2);
  }

  static void moves() {
    sentence("MOVES have a KIND: 0 MOVE; 1 SLIDE, under MOVE (told: 0 north, 1 east, 2 south, 3 west); 2 TURN, under SLIDE;");
    int[] to = {2, 10, 14, 6};
    for (int d = 0; d < 4; d++) {
      TheOtherRoom x = reads("board 3 by 3;thing 1 by 1 at 4");
      due("SLIDE", make(x, 1, 0, d) * 100 + x.thingOf(0, 0, 5), 100 + to[d]);
    }
    Sentences.edges(TheOtherRoom::new, "SLIDE", 0, 3, (y, v) -> y.move(0, 1, 0, v));
    Sentences.edges(TheOtherRoom::new, "KIND", 1, 5, (y, v) -> y.move(0, v, 0, 0));
    sentence("3 CARRY, under MOVE (told: a SPOT, or 200); 4 OUT, under CARRY; 5 IN, under CARRY (told: a SPOT).");
    TheOtherRoom x = new TheOtherRoom();
    for (int v = -3; v <= 230; v++) {
      boolean spot = v >= 0 && v <= 127;
      due("CARRY told " + v, x.move(0, 3, 0, v), spot || v == 200 ? 1 : BAD);
      due("IN told " + v, x.move(1, 5, 0, v), spot ? 1 : BAD);
    }
    sentence("Each is of a THING (0 to 5).");
    for (int kind = 1; kind <= 5; kind++) {
      int k = kind;
      Sentences.edges(TheOtherRoom::new, "THING of KIND " + k, 0, 5, (y, v) -> y.move(0, k, v, 0));
    }
    sentence("A MOVE CAN BE in a FLAT: SLIDE, TURN: as STEPS, of one that may be carried;");
    String[] kinds = {"", " heavy 2", " heavy 3", " fixed", ";hands 1", " heavy 3;hands 3", " fixed;hands 3"};
    int[] may = {1, 1, 0, 0, 1, 1, 0};
    for (int k = 0; k < kinds.length; k++) {
      TheOtherRoom y = reads("board 3 by 3;thing 2 by 1 at 3" + kinds[k]);
      for (int d = 0; d < 4; d++) due("SLIDE " + d + kinds[k], can(y, 1, 0, d), d == 3 ? 0 : may[k]);
      due("TURN" + kinds[k], can(y, 2, 0, 0), may[k]);
      due("a THING that isn't", can(y, 1, 1, 0) + can(y, 2, 1, 0) + can(y, 1, 5, 0), 0);
      due("TURN" + kinds[k], make(y, 2, 0, 0), may[k] == 1 ? 1 : STUCK);
    }
    sentence("CARRY: as above; OUT, IN: as one STEP, likewise.");
    for (int k = 0; k < kinds.length; k++) {
      TheOtherRoom z = reads("board 3 by 2;landing 1 door 0;thing 1 by 1 at 0" + kinds[k]);
      due("OUT" + kinds[k], can(z, 4, 0, 0), may[k]);
      due("CARRY" + kinds[k], can(z, 3, 0, 4), 2 * may[k]);
      due("CARRY to where it STANDS" + kinds[k], can(z, 3, 0, 0), 0);
      z.put(0, 0, 200);
      due("IN" + kinds[k], can(z, 5, 0, 0), may[k]);
      due("IN away from the DOOR" + kinds[k], can(z, 5, 0, 2), 0);
      due("CARRY" + kinds[k], can(z, 3, 0, 2), 2 * may[k]);
    }
  }

  // ---- REFUSALS

  static void refusals() {
    sentence("(the call answers the number; nothing changes but how many there were;");
    Sentences.refused(Sentences::room, BAD, "carry", x -> x.carry(0, 9, 0));
    Sentences.refused(Sentences::room, OTHER, "set", x -> x.set(2, 0, 5));
    Sentences.refused(Sentences::room, NOTHING, "set", x -> x.set(7, 0, 5));
    Sentences.refused(Sentences::room, STUCK, "carry", x -> x.carry(0, 2, 20));
    TheOtherRoom many = new TheOtherRoom();
    for (int i = 0; i < 511; i++) many.row(8, 0, 0);
    due("511 of one kind", many.status(12), 511);
    sentence("-2 BAD a number that may not be, nothing of that number (a SPOT of a THING at which it would cover");
    int[] places = {-1, -2, 6, 7 + 16, 24, 25, 127, 128, 199, 201, Integer.MIN_VALUE, Integer.MAX_VALUE};
    for (int place : places) {
      Sentences.refused(Sentences::room, BAD, "steps to " + place, x -> x.steps(0, 0, place));
      Sentences.refused(Sentences::room, BAD, "carry to " + place, x -> x.carry(0, 0, place));
      Sentences.refused(Sentences::room, BAD, "put to " + place, x -> x.put(0, 0, place));
      if (place != NONE) Sentences.refused(Sentences::room, BAD, "draw to " + place, x -> x.draw(0, 0, 0, place));
    }
    sentence("or is turned though W is H).");
    for (int cell = 0; cell < 12; cell++) {
      int place = 2 * cell + 1;
      Sentences.refused(Sentences::room, BAD, "steps to " + place, x -> x.steps(0, 1, place));
      Sentences.refused(Sentences::room, BAD, "carry to " + place, x -> x.carry(0, 1, place));
      Sentences.refused(Sentences::room, BAD, "put to " + place, x -> x.put(0, 1, place));
      Sentences.refused(Sentences::room, BAD, "draw to " + place, x -> x.draw(0, 0, 1, place));
    }
    sentence("-3 OTHER: a SHELF that holds another thing than is wanted. -4 NOTHING: a SHELF that holds NOTHING.");
    Sentences.refused(Sentences::room, OTHER, "says of a ROW", x -> x.says(0, 0));
    Sentences.refused(Sentences::room, OTHER, "judge by a MOVE", x -> x.judge(0, 2, 0));
    Sentences.refused(Sentences::room, NOTHING, "says of NOTHING", x -> x.says(4, 0));
    Sentences.refused(Sentences::room, NOTHING, "judge by NOTHING", x -> x.judge(0, 4, 0));
    sentence("-5 STUCK: it can't be as things stand; SPENT. -6 FULL.");
    Sentences.refused(Sentences::room, STUCK, "put to another one's CELL", x -> x.put(0, 1, 0));
    Sentences.refused(() -> rooms(7, 11, 13), STUCK, "1,001 STATES", x -> x.least(0, 0));
    Sentences.quiet(() -> rooms(10, 10, 10), "1,000 STATES", 3, x -> x.least(0, 0));
    Sentences.Maker tape = () -> { TheOtherRoom x = with("board 2 by 2"); Sentences.feed(x, padded("board 2 by 3", 198)); return x; };
    Sentences.refused(tape, FULL, "201 bytes", x -> x.feed(-1, 3));
    Sentences.Maker four = () -> with("board 2 by 2", "board 2 by 2", "board 2 by 2", "board 2 by 2");
    Sentences.refused(four, FULL, "five FLATS", x -> x.flat());
    sentence("the first that fits as each line has them)");
    Sentences.ahead(Sentences::room, BAD, OTHER, "no KIND, a ROW", x -> x.says(0, 6));
    Sentences.ahead(Sentences::room, BAD, NOTHING, "no FLAT, NOTHING", x -> x.can(2, 4));
    Sentences.ahead(Sentences::room, OTHER, NOTHING, "a MOVE and NOTHING", x -> x.copy(2, 4, 0, 0, 0));
    Sentences.ahead(Sentences::room, OTHER, BAD, "a MOVE has no element", x -> x.set(2, 40, 0));
    Sentences.ahead(Sentences::room, NOTHING, BAD, "NOTHING has no element", x -> x.set(4, -1, 0));
    Sentences.ahead(Sentences::room, BAD, STUCK, "no place, and it is fixed", x -> x.carry(0, 2, 24));
    Sentences.ahead(tape, BAD, FULL, "five bytes", x -> x.feed(0, 5));
    Sentences.ahead(four, FULL, BAD, "THE TAPE is no FLAT", x -> x.flat());
    Sentences.elsewhere("An object is used for at most 512 calls after it has been made");
    TheOtherRoom last = reads("board 8 by 8;thing 1 by 1 at 0");
    // 8 calls and a FLAT so far
    for (int i = 0; i < 502; i++) due("call " + i, last.carry(0, 0, i % 2 == 0 ? 126 : 0), 14);
    due("the last ones", last.flatOf(0, 7), 502 * 14);
  }

  public static void main(String[] args) {
    Sentences.terms();
    numbersOfFlats();
    tape();
    tokens();
    faults();
    board();
    walls();
    things();
    handsAndLanding();
    spots();
    covered();
    standing();
    slides();
    turns();
    outAndIn();
    carries();
    drawings();
    layers();
    sixLayers();
    first();
    waits();
    shelves();
    moves();
    refusals();
    Sentences.end("TermBoundaries");
  }
}
