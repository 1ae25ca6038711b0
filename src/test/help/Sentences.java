import java.io.IOException;
import java.nio.charset.StandardCharsets;
import java.nio.file.Files;
import java.nio.file.Path;
import java.util.Set;
import java.util.TreeSet;
import java.util.regex.Matcher;
import java.util.regex.Pattern;
import java.util.stream.IntStream;

/** What the tests of single sentences share: each names the sentence it is of, as the document has it. */
final class Sentences {
  interface Maker { TheOtherRoom make(); }
  interface Call { long on(TheOtherRoom x); }
  interface OfNumber { long on(TheOtherRoom x, int v); }

  static final int NONE = TheOtherRoom.NONE, BAD = -2, OTHER = -3, NOTHING = -4, STUCK = -5, FULL = -6;
  /** How BAD, OTHER .. are called, by -2 less the number. */
  private static final String[] NAMES = {"BAD", "OTHER", "NOTHING", "STUCK", "FULL"};
  /** In these an object is full of what a refused call might spoil. */
  static final String ROOM = "board 4 by 3;wall 11;landing 1 door 3;thing 2 by 1 at 0;thing 1 by 1 at 6;"
      + "thing 1 by 1 at 8 fixed;thing 1 by 1 at 4 heavy 3";

  private static final String DOC = document();
  private static int right = 0, wrong = 0;
  private static int promise = 0;
  private static String section = "", sentence = "";
  /** The sentences so far, and the REFUSALS that were answered in each promise, as "3 BAD". */
  private static final Set<String> sentences = new TreeSet<>(), refusals = new TreeSet<>();

  private static String document() {
    try {
      return Files.readString(Path.of("../shared/DOC.md")).replaceAll("\\s+", " ");
    } catch (IOException e) {
      throw new IllegalStateException("no document", e);
    }
  }

  private static String between(String from, String to) {
    int start = DOC.indexOf(from), end = DOC.indexOf(to, Math.max(0, start) + from.length());
    return start < 0 ? "" : DOC.substring(start, end < 0 ? DOC.length() : end);
  }

  static void terms() {
    promise = 0;
    section = between("## Terms ", "## Promise 1:");
  }

  static void promise(int n) {
    promise = n;
    section = between("## Promise " + n + ": ", "## ");
  }

  /** The sentence that is tested from here on; the document must have it there. */
  static void sentence(String words) {
    sentence = words;
    sentences.add(promise + " " + words);
    if (!section.contains(words)) fail("the document doesn't say this there");
  }

  /** A sentence that stands at another place than under Terms or a promise. */
  static void elsewhere(String words) {
    sentence = words;
    sentences.add("- " + words);
    if (!DOC.contains(words)) fail("the document doesn't say this");
  }

  private static void fail(String what) {
    wrong++;
    System.out.println((promise == 0 ? "terms" : "promise " + promise) + ", \"" + sentence + "\": " + what);
  }

  static void due(String what, long got, long want) {
    if (got == want) right++;
    else fail(what + " answered " + got + ", due is " + want);
  }

  private static void same(String what, String got, String want) {
    if (got.equals(want)) right++;
    else fail(what + " changed something:\n    " + want + "\n    " + got);
  }

  // ---- objects

  /** The TAPE gets a text, four bytes at once. */
  static void feed(TheOtherRoom x, String text) {
    byte[] all = text.getBytes(StandardCharsets.ISO_8859_1);
    for (int i = 0; i < all.length; ) {
      int n = Math.min(4, all.length - i), v = 0;
      for (int k = 0; k < n; k++) v = v << 8 | all[i + k] & 255;
      x.feed(v, n);
      i += n;
    }
  }

  static int flat(TheOtherRoom x, String text) {
    feed(x, text);
    return x.flat();
  }

  static TheOtherRoom with(String... texts) {
    TheOtherRoom x = new TheOtherRoom();
    for (int i = 0; i < texts.length; i++) due("flat(" + texts[i] + ")", flat(x, texts[i]), i);
    return x;
  }

  static void row(TheOtherRoom x, int s, int sort, long... all) {
    x.row(s, sort, all.length);
    for (int i = 0; i < all.length; i++) x.set(s, i, all[i]);
  }

  /**
   * Two FLATS, ROWS in SHELVES 0 (3 ints) and 1 (2 longs), MOVES in 2 (SLIDE) and 3 (CARRY), NOTHING in the others,
   * DRAWINGS, something kept, a SEARCH under way that goes on, and a TAPE that is part of a FLAT.
   */
  static TheOtherRoom room() {
    TheOtherRoom x = new TheOtherRoom();
    flat(x, ROOM);
    flat(x, "board 2 by 2");
    x.draw(0, 0, 0, 7);
    x.draw(0, 0, 1, 14);
    x.carry(0, 1, 200);
    x.image();
    x.carry(0, 1, 6);
    x.take(0, 1);
    x.begin(0, 0);
    row(x, 0, 2, 1010, 1200, 2);
    row(x, 1, 3, Long.MAX_VALUE, -5);
    x.move(2, 1, 1, 3);
    x.move(3, 3, 1, 10);
    feed(x, "board 3 by 4");
    return x;
  }

  // ---- all that can be seen

  /** How many elements a ROW has, by what copy() takes. */
  static int size(TheOtherRoom x, int s) {
    int low = 0, high = 40;
    while (low < high) {
      int mid = (low + high + 1) / 2;
      if (x.copy(s, s, mid, mid, 0) == 0) low = mid;
      else high = mid - 1;
    }
    return low;
  }

  private static void shelves(TheOtherRoom x, StringBuilder b) {
    for (int s = 0; s < 8; s++) {
      int holds = x.holds(s);
      b.append(" S").append(s).append(':').append(holds);
      int size = holds >= 0 && holds < 10 ? size(x, s) : 0;
      for (int i = 0; i < size; i++) b.append(',').append(x.element(s, i));
      if (holds >= 10) b.append(',').append(x.says(s, 0)).append(',').append(x.says(s, holds - 10));
    }
  }

  private static void flats(TheOtherRoom x, StringBuilder b) {
    int n = x.status(0);
    for (int f = 0; f < n; f++) {
      b.append(" F").append(f).append(':');
      for (int i = 0; i <= 8; i++) b.append(x.flatOf(f, i)).append(',');
      b.append(x.floor(f, 0)).append(',').append(x.floor(f, 1));
      int things = x.flatOf(f, 2);
      for (int t = 0; t < things; t++) {
        b.append(" T").append(t).append(':');
        for (int i = 0; i <= 5; i++) b.append(x.thingOf(f, t, i)).append(',');
        for (int d = 0; d <= 3; d++) b.append(x.drawn(f, d, t)).append(',');
      }
    }
  }

  /** All of an object but how many were refused; what only shows when it is used is used. */
  static String whole(TheOtherRoom x) {
    StringBuilder b = new StringBuilder("FLATS " + x.status(0) + " TAPE " + x.status(1) + " SHELVES " + x.status(2));
    shelves(x, b);
    flats(x, b);
    b.append(" SEARCH:");
    for (int i = 0; i <= 5; i++) b.append(x.search(i)).append(',');
    for (int n = 1, i = 0; n > 0 && i < 7; i++) {
      n = x.step();
      b.append(" step ").append(n).append(',').append(x.search(5));
    }
    b.append(" KEPT:").append(x.back());
    flats(x, b);
    b.append(" TAPE:").append(x.flat());
    flats(x, b);
    return b.toString();
  }

  static void alike(String what, TheOtherRoom x, TheOtherRoom y) { same(what, whole(x), whole(y)); }

  private static int[] counts(TheOtherRoom x) {
    int[] all = new int[5];
    for (int i = 0; i < 5; i++) all[i] = x.status(12 + i);
    return all;
  }

  // ---- what a call does

  /** The call answers so; one REFUSAL is counted (0: none), and else all is then as told. */
  private static void keeps(Maker m, Maker then, String what, int which, long answer, Call c) {
    TheOtherRoom x = m.make();
    int[] before = counts(x);
    due(what, c.on(x), answer);
    int[] after = counts(x);
    for (int i = 0; i < 5; i++) due(what + ": counted " + NAMES[i], after[i] - before[i], -2 - i == which ? 1 : 0);
    same(what, whole(x), whole(then.make()));
  }

  static void refused(Maker m, int which, String what, Call c) {
    refusals.add(promise + " " + NAMES[-2 - which]);
    keeps(m, m, what + " (" + NAMES[-2 - which] + ")", which, which, c);
  }

  /** A refused call that answers another number, and after which all is as told. */
  static void refusedAs(Maker m, Maker then, int which, long answer, String what, Call c) {
    refusals.add(promise + " " + NAMES[-2 - which]);
    keeps(m, then, what + " (" + NAMES[-2 - which] + ")", which, answer, c);
  }

  /** A call that fits two REFUSALS: the one that the line has first is answered. */
  static void ahead(Maker m, int first, int second, String what, Call c) {
    refused(m, first, what + ": ahead of " + NAMES[-2 - second], c);
  }

  /** A call that answers, refuses nothing and changes nothing. */
  static void quiet(Maker m, String what, long answer, Call c) {
    keeps(m, m, what, 0, answer, c);
  }

  private static int[] outside(int from, int to) {
    int[] far = {from - 1, to + 1, from - 2, to + 2, from - 32, to + 32, to + 64, to + 128, from - 256, to + 256,
      64, 128, 256, from - 65536, to + 65536, to - Integer.MAX_VALUE, Integer.MIN_VALUE, Integer.MIN_VALUE + to, Integer.MAX_VALUE};
    return IntStream.of(far).filter(v -> v < from || v > to).toArray();
  }

  /** Numbers from .. to may be: those at both ends are taken, one too small or too large is BAD and changes nothing. */
  static void edges(Maker m, String what, int from, int to, OfNumber c) {
    for (int v : new int[] {from, to}) due(what + " " + v + " may be", c.on(m.make(), v) == BAD ? 0 : 1, 1);
    for (int v : outside(from, to)) refused(m, BAD, what + " " + v, x -> c.on(x, v));
  }

  /** Likewise of a call that refuses nothing: one too small or too large has an answer of its own. */
  static void quietEdges(Maker m, String what, int from, int to, long answer, OfNumber c) {
    for (int v : outside(from, to)) quiet(m, what + " " + v, answer, x -> c.on(x, v));
  }

  // ---- the end

  /** Each promise has a test, and each REFUSAL that its line names was answered. */
  static void allPromises() {
    sentence = "all promises";
    for (int n = 1; n <= 50; n++) {
      promise(n);
      sentence = "its REFUSALS";
      boolean some = false;
      for (String s : sentences) some |= s.startsWith(n + " ");
      if (!some) fail("no sentence of it has a test");
      // in these the words name what is held, or what is not refused
      if (n == 1 || n == 6 || n == 16) continue;
      Matcher m = Pattern.compile("\\b(BAD|OTHER|NOTHING|STUCK|FULL)\\b").matcher(section);
      while (m.find()) if (!refusals.contains(n + " " + m.group())) fail("no test has " + m.group());
    }
  }

  static void end(String name) {
    System.out.println(name + ": " + sentences.size() + " sentences, " + right + " answers as due, " + wrong + " not");
    if (wrong != 0) System.exit(1);
  }
}
