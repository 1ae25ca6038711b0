import java.util.ArrayList;
import java.util.Arrays;
import java.util.HashMap;
import java.util.HashSet;
import java.util.LinkedHashMap;
import java.util.List;
import java.util.Map;
import java.util.Random;
import java.util.Set;
import java.util.TreeMap;
import java.util.regex.Matcher;
import java.util.regex.Pattern;

/**
 * Random runs (the seeds are fixed) of TheOtherRoom beside a model of the document that is written as plainly as
 * can be: sets of CELLS, maps of STATES, nothing kept ready. Every answer of every call must be the same.
 */
public final class RandomRuns {
  static final int BAD = -2, OTHER = -3, NOTHING = -4, STUCK = -5, FULL = -6;
  static final int RUNS = 3000;

  static final class T implements Cloneable {
    int w, h, heavy = 1, told, stand;
    boolean fixed, plain;
    T twin() { try { return (T) clone(); } catch (CloneNotSupportedException e) { throw new IllegalStateException(e); } }
  }

  static final class F {
    int w, h, hands = 2, landing = 0, door = 0, carries, steps;
    boolean[] wall;
    List<T> things = new ArrayList<>();
    List<List<Integer>> drawings = new ArrayList<>();

    F twin() {
      F f = new F();
      f.w = w; f.h = h; f.hands = hands; f.landing = landing; f.door = door; f.carries = carries; f.steps = steps;
      f.wall = wall.clone();
      for (T t : things) f.things.add(t.twin());
      for (List<Integer> d : drawings) f.drawings.add(new ArrayList<>(d));
      return f;
    }

    List<Integer> stands() {
      List<Integer> all = new ArrayList<>();
      for (T t : things) all.add(t.stand);
      return all;
    }

    /** CELLS at a SPOT; null: not of the board, or no SPOT. */
    Set<Integer> cells(int thing, int spot) {
      if (thing < 0 || thing >= things.size() || spot < 0 || spot > 127) return null;
      T t = things.get(thing);
      boolean turned = spot % 2 == 1;
      if (turned && t.w == t.h) return null;
      int x0 = (spot / 2) % w, y0 = (spot / 2) / w;
      Set<Integer> all = new HashSet<>();
      for (int y = 0; y < (turned ? t.w : t.h); y++)
        for (int x = 0; x < (turned ? t.h : t.w); x++) {
          if (x0 + x >= w || y0 + y >= h) return null;
          all.add((y0 + y) * w + x0 + x);
        }
      return all;
    }

    boolean place(int thing, int told) {
      return thing >= 0 && thing < things.size() && (told == 200 || cells(thing, told) != null);
    }

    int landed(List<Integer> stands, int but) {
      int n = 0;
      for (int i = 0; i < stands.size(); i++) if (i != but && stands.get(i) == 200) n++;
      return n;
    }

    Set<Integer> covered(List<Integer> stands, int but) {
      Set<Integer> all = new HashSet<>();
      for (int i = 0; i < stands.size(); i++) {
        Set<Integer> c = i == but ? null : cells(i, stands.get(i));
        if (c != null) all.addAll(c);
      }
      return all;
    }

    boolean canStand(List<Integer> stands, int thing, int spot) {
      Set<Integer> mine = cells(thing, spot);
      if (mine == null) return false;
      Set<Integer> others = covered(stands, thing);
      for (int c : mine) if (wall[c] || others.contains(c)) return false;
      return true;
    }

    boolean carriable(int thing) { return !things.get(thing).fixed && things.get(thing).heavy <= hands; }

    /** All places one STEP on from a place. */
    List<Integer> step(List<Integer> stands, int thing, int from) {
      T t = things.get(thing);
      List<Integer> all = new ArrayList<>();
      if (from == 200) {
        for (int s = 0; s < 128; s++) {
          Set<Integer> c = cells(thing, s);
          if (c == null || !c.contains(door)) continue;
          if (t.plain && s % 2 != t.told) continue;
          if (canStand(stands, thing, s)) all.add(s);
        }
        return all;
      }
      int x = (from / 2) % w, y = (from / 2) / w;
      int[][] ways = {{0, -1}, {1, 0}, {0, 1}, {-1, 0}};
      for (int[] way : ways) {
        int nx = x + way[0], ny = y + way[1];
        if (nx < 0 || ny < 0 || nx >= w || ny >= h) continue;
        int s = 2 * (ny * w + nx) + from % 2;
        if (canStand(stands, thing, s)) all.add(s);
      }
      if (!t.plain && t.w != t.h && canStand(stands, thing, from ^ 1)) all.add(from ^ 1);
      Set<Integer> here = cells(thing, from);
      if (here != null && here.contains(door) && landed(stands, thing) < landing) all.add(200);
      return all;
    }

    /** STEPS to every place, the own one too. */
    Map<Integer, Integer> walks(List<Integer> stands, int thing) {
      Map<Integer, Integer> far = new TreeMap<>();
      far.put(stands.get(thing), 0);
      if (!carriable(thing)) return far;
      List<Integer> queue = new ArrayList<>();
      queue.add(stands.get(thing));
      for (int i = 0; i < queue.size(); i++)
        for (int next : step(stands, thing, queue.get(i)))
          if (!far.containsKey(next)) { far.put(next, far.get(queue.get(i)) + 1); queue.add(next); }
      return far;
    }

    int steps(List<Integer> stands, int thing, int told) {
      Integer n = walks(stands, thing).get(told);
      return n == null ? -1 : n;
    }

    int off(List<Integer> stands, List<Integer> drawing) {
      int n = 0;
      for (int i = 0; i < stands.size(); i++)
        if (drawing.get(i) != -1 && !drawing.get(i).equals(stands.get(i))) n++;
      return n;
    }

    int waits(List<Integer> drawing, int thing) {
      int d = drawing.get(thing);
      Set<Integer> want = d == things.get(thing).stand ? null : cells(thing, d);
      int bits = 0;
      for (int i = 0; want != null && i < things.size(); i++) {
        Set<Integer> has = cells(i, things.get(i).stand);
        if (i == thing || has == null || drawing.get(i) == things.get(i).stand) continue;
        for (int c : has) if (want.contains(c)) bits |= 1 << i;
      }
      return bits;
    }

    boolean comesTo(List<Integer> drawing, int from, int to, Set<Integer> seen) {
      for (int i = 0; i < things.size(); i++)
        if ((waits(drawing, from) >> i & 1) == 1 && seen.add(i) && (i == to || comesTo(drawing, i, to, seen))) return true;
      return false;
    }

    int rings(List<Integer> drawing) {
      int bits = 0;
      for (int i = 0; i < things.size(); i++) if (comesTo(drawing, i, i, new HashSet<>())) bits |= 1 << i;
      return bits;
    }

    boolean sound(List<Integer> drawing) {
      Set<Integer> taken = new HashSet<>();
      int onLanding = 0;
      for (int i = 0; i < things.size(); i++) {
        if (drawing.get(i) == 200) onLanding++;
        Set<Integer> c = cells(i, drawing.get(i));
        if (c == null) continue;
        for (int cell : c) if (wall[cell] || !taken.add(cell)) return false;
      }
      return onLanding <= landing;
    }

    int parts() {
      Set<Integer> rest = new HashSet<>();
      for (int c = 0; c < w * h; c++) if (!wall[c]) rest.add(c);
      for (int i = 0; i < things.size(); i++)
        if (things.get(i).fixed && cells(i, things.get(i).stand) != null) rest.removeAll(cells(i, things.get(i).stand));
      int n = 0;
      while (!rest.isEmpty()) {
        n++;
        List<Integer> heap = new ArrayList<>();
        heap.add(rest.iterator().next());
        while (!heap.isEmpty()) {
          int c = heap.remove(heap.size() - 1);
          if (!rest.remove(c)) continue;
          if (c % w > 0) heap.add(c - 1);
          if (c % w < w - 1) heap.add(c + 1);
          heap.add(c - w);
          heap.add(c + w);
        }
      }
      return n;
    }

    /** The FLAT without a THING. */
    F without(int thing) {
      F f = twin();
      f.things.remove(thing);
      for (List<Integer> d : f.drawings) d.remove(thing);
      return f;
    }
  }

  /** 0 it goes on, 1 FOUND, 2 there is none, 3 SPENT. */
  static final class Se {
    int flat, drawing, layer, state, least = -1, first = -1;
    List<List<Integer>> newest = new ArrayList<>();
    /** Every STATE so far, and the fewest STEPS to it. */
    Map<List<Integer>, Integer> all = new LinkedHashMap<>();
    List<Integer> start;
    Map<List<Integer>, List<int[]>> carries = new HashMap<>();

    Se(F f, int drawing) {
      this.drawing = drawing;
      start = f.stands();
      newest.add(start);
      all.put(start, 0);
      look(f);
    }

    void look(F f) {
      int best = -1;
      for (List<Integer> s : newest)
        if (f.off(s, f.drawings.get(drawing)) == 0 && (best == -1 || all.get(s) < best)) best = all.get(s);
      if (best >= 0) { state = 1; least = best; }
      else if (newest.isEmpty() || layer == 6) state = 2;
    }

    int deepen(F f) {
      carries.clear();
      layer++;
      Map<List<Integer>, Integer> next = new LinkedHashMap<>();
      for (List<Integer> s : newest)
        for (int[] c : carriesOf(f, s)) {
          List<Integer> to = after(s, c);
          if (all.containsKey(to)) continue;
          next.merge(to, all.get(s) + c[2], Math::min);
        }
      newest = new ArrayList<>(next.keySet());
      all.putAll(next);
      if (all.size() > 1000) { state = 3; return 1001; }
      look(f);
      return newest.size();
    }

    static List<Integer> after(List<Integer> s, int[] carry) {
      List<Integer> to = new ArrayList<>(s);
      to.set(carry[0], carry[1]);
      return to;
    }

    List<int[]> carriesOf(F f, List<Integer> s) {
      List<int[]> known = carries.get(s);
      if (known != null) return known;
      List<int[]> made = new ArrayList<>();
      for (int i = 0; i < s.size(); i++)
        for (Map.Entry<Integer, Integer> e : f.walks(s, i).entrySet())
          if (!e.getKey().equals(s.get(i))) made.add(new int[] {i, e.getKey(), e.getValue()});
      carries.put(s, made);
      return made;
    }

    Se run(F f, int layers) {
      for (int i = 0; i < layers && state == 0; i++) deepen(f);
      return this;
    }

    /** The first CARRY from which LEAST can still be had, asked of what is left to be done. */
    int firstOf(F f) {
      if (state != 1 || layer == 0) return -1;
      Map<List<Integer>, Integer> memo = new HashMap<>();
      for (int[] c : carriesOf(f, start)) {
        int rest = togo(f, after(start, c), layer - 1, memo);
        if (rest >= 0 && rest + c[2] == least) return 1000 * c[0] + c[1];
      }
      throw new IllegalStateException("no first CARRY");
    }

    int togo(F f, List<Integer> s, int left, Map<List<Integer>, Integer> memo) {
      if (left == 0) return f.off(s, f.drawings.get(drawing)) == 0 ? 0 : -1;
      List<Integer> key = new ArrayList<>(s);
      key.add(1000 + left);
      Integer known = memo.get(key);
      if (known != null) return known;
      int best = -1;
      for (int[] c : carriesOf(f, s)) {
        int rest = togo(f, after(s, c), left - 1, memo);
        if (rest >= 0 && (best == -1 || rest + c[2] < best)) best = rest + c[2];
      }
      memo.put(key, best);
      return best;
    }
  }

  static final class S {
    int holds = -1, thing, told;
    long[] v = new long[0];
  }

  static final class Fault extends RuntimeException {
    final int place;
    Fault(int place) { super(null, null, false, false); this.place = place; }
  }

  /** The TOKENS of a tape, one after the other. */
  static final class Text {
    final List<String> tokens = new ArrayList<>();
    final List<Integer> places = new ArrayList<>();
    int i = 0;

    Text(String s) {
      Matcher m = Pattern.compile("[a-z]+|[0-9]+|;|[^ ]", Pattern.DOTALL).matcher(s);
      while (m.find()) { tokens.add(m.group()); places.add(m.start()); }
      tokens.add("");
      places.add(s.length());
    }

    boolean is(String t) { return tokens.get(i).equals(t); }
    int place() { return places.get(i); }
    boolean take(String t) { if (!is(t)) return false; i++; return true; }
    void must(String t) { if (!take(t)) throw new Fault(place()); }
    int number(int from, int to) {
      String t = tokens.get(i);
      if (!t.matches("[0-9]{1,2}") || Integer.parseInt(t) < from || Integer.parseInt(t) > to) throw new Fault(place());
      i++;
      return Integer.parseInt(t);
    }
  }

  static F read(String s) {
    Text t = new Text(s);
    F f = new F();
    t.must("board");
    f.w = t.number(2, 8);
    t.must("by");
    f.h = t.number(2, 8);
    f.wall = new boolean[f.w * f.h];
    int last = f.w * f.h - 1;
    while (t.take(";")) {
      if (t.take("wall")) {
        int p = t.place(), c = t.number(0, last);
        if (f.covered(f.stands(), -1).contains(c)) throw new Fault(p);
        f.wall[c] = true;
      } else if (t.is("thing") && f.things.size() < 6) {
        t.i++;
        T n = new T();
        n.w = t.number(1, 3);
        t.must("by");
        n.h = t.number(1, 3);
        t.must("at");
        int p = t.place(), c = t.number(0, last);
        n.told = t.take("turned") ? 1 : 0;
        n.stand = 2 * c + n.told;
        f.things.add(n);
        if (!f.canStand(f.stands(), f.things.size() - 1, n.stand)) throw new Fault(p);
        if (t.take("heavy")) n.heavy = t.number(1, 3);
        n.fixed = t.take("fixed");
        n.plain = t.take("plain");
      } else if (t.take("hands")) {
        f.hands = t.number(1, 3);
      } else if (t.take("landing")) {
        f.landing = t.number(0, 3);
        t.must("door");
        f.door = t.number(0, last);
      } else throw new Fault(t.place());
    }
    t.must("");
    for (int d = 0; d < 4; d++) {
      List<Integer> none = new ArrayList<>();
      for (int i = 0; i < f.things.size(); i++) none.add(-1);
      f.drawings.add(none);
    }
    return f;
  }

  /** The document's calls on the plain model. */
  static final class Model {
    List<F> flats = new ArrayList<>();
    List<F> kept = null;
    S[] shelves = new S[8];
    String tape = "";
    Se search = null;
    /** The FLAT as it was when the SEARCH was begun. */
    F searched = null;
    long[] refusals = new long[5];

    Model() { for (int i = 0; i < 8; i++) shelves[i] = new S(); }

    int no(int which) { refusals[-2 - which]++; return which; }
    F f(int flat) { return flat >= 0 && flat < flats.size() ? flats.get(flat) : null; }
    F f(int flat, int d) { return d >= 0 && d < 4 ? f(flat) : null; }
    boolean thing(F f, int t) { return f != null && t >= 0 && t < f.things.size(); }
    boolean shelf(int s) { return s >= 0 && s < 8; }

    long row(int s, int sort, int n) {
      if (!shelf(s) || sort < 0 || sort > 4 || n < 0 || n > 40) return no(BAD);
      shelves[s] = new S();
      shelves[s].holds = sort;
      shelves[s].v = new long[n];
      return 1;
    }

    long set(int s, int i, long v) {
      if (!shelf(s)) return no(BAD);
      S x = shelves[s];
      if (x.holds >= 10) return no(OTHER);
      if (x.holds < 0) return no(NOTHING);
      if (i < 0 || i >= x.v.length) return no(BAD);
      x.v[i] = x.holds == 0 ? (byte) v : x.holds == 1 ? (short) v : x.holds == 2 ? (int) v : x.holds == 3 ? v : v != 0 ? 1 : 0;
      return 1;
    }

    long copy(int p, int q, int i, int j, int n) {
      if (!shelf(p) || !shelf(q)) return no(BAD);
      S a = shelves[p], b = shelves[q];
      if (a.holds >= 10 || b.holds >= 10) return no(OTHER);
      if (a.holds >= 0 && b.holds >= 0 && a.holds != b.holds) return no(OTHER);
      if (a.holds < 0 || b.holds < 0) return no(NOTHING);
      if (n < 0 || i < 0 || j < 0 || (long) i + n > a.v.length || (long) j + n > b.v.length) return no(BAD);
      long[] were = a.v.clone();
      for (int k = 0; k < n; k++) b.v[j + k] = were[i + k];
      return n;
    }

    long element(int s, int i) {
      return shelf(s) && i >= 0 && i < shelves[s].v.length ? shelves[s].v[i] : 0;
    }

    long holds(int s) { return shelf(s) ? shelves[s].holds : -1; }

    long move(int s, int kind, int thing, int told) {
      boolean spot = told >= 0 && told < 128;
      if (!shelf(s) || kind < 1 || kind > 5 || thing < 0 || thing > 5) return no(BAD);
      if (kind == 1 && (told < 0 || told > 3) || kind == 3 && !spot && told != 200 || kind == 5 && !spot) return no(BAD);
      shelves[s] = new S();
      shelves[s].holds = 10 + kind;
      shelves[s].thing = thing;
      shelves[s].told = told;
      return 1;
    }

    static boolean under(int own, int kind) {
      int[] parent = {-1, 0, 1, 0, 3, 3};
      for (int k = own; k >= 0; k = parent[k]) if (k == kind) return true;
      return false;
    }

    long says(int s, int kind) {
      if (!shelf(s) || kind < 0 || kind > 5) return no(BAD);
      S x = shelves[s];
      if (x.holds == -1) return no(NOTHING);
      if (x.holds < 10 || !under(x.holds - 10, kind)) return no(OTHER);
      if (kind == 0) return x.thing;
      return x.holds == 12 ? 4 : x.holds == 14 ? 200 : x.told;
    }

    /** Where the MOVE leads and how many STEPS that are; null: it CAN'T BE. */
    int[] way(F f, S x) {
      if (x.thing >= f.things.size() || !f.carriable(x.thing)) return null;
      int now = f.things.get(x.thing).stand;
      if (x.holds == 13) {
        int n = f.steps(f.stands(), x.thing, x.told);
        return n < 1 ? null : new int[] {x.told, n};
      }
      for (int to : f.step(f.stands(), x.thing, now)) {
        boolean slide = now != 200 && to != 200 && now % 2 == to % 2;
        int[] ways = {-f.w, 1, f.w, -1};
        if (x.holds == 11 && slide && to / 2 - now / 2 == ways[x.told]) return new int[] {to, 1};
        if (x.holds == 12 && now != 200 && to == (now ^ 1)) return new int[] {to, 1};
        if (x.holds == 14 && to == 200) return new int[] {to, 1};
        if (x.holds == 15 && now == 200 && to == x.told) return new int[] {to, 1};
      }
      return null;
    }

    long can(int flat, int s, boolean made) {
      F f = f(flat);
      if (f == null || !shelf(s)) return no(BAD);
      S x = shelves[s];
      if (x.holds >= 0 && x.holds < 10) return no(OTHER);
      if (x.holds < 0) return no(NOTHING);
      int[] way = way(f, x);
      if (!made) return way == null ? 0 : way[1];
      if (way == null) return no(STUCK);
      f.things.get(x.thing).stand = way[0];
      f.steps += way[1];
      if (x.holds == 13) f.carries++;
      return way[1];
    }

    long feed(int v, int n) {
      if (n < 1 || n > 4) return no(BAD);
      if (tape.length() + n > 200) return no(FULL);
      for (int i = n - 1; i >= 0; i--) tape += (char) (v >> 8 * i & 255);
      return tape.length();
    }

    long wipe() { int n = tape.length(); tape = ""; return n; }

    long flat() {
      if (flats.size() == 4) return no(FULL);
      String was = tape;
      tape = "";
      try {
        flats.add(read(was));
        return flats.size() - 1;
      } catch (Fault e) {
        no(BAD);
        return -20 - e.place;
      }
    }

    long flatOf(int flat, int what) {
      F f = f(flat);
      if (f == null || what < 0 || what > 8) return no(BAD);
      return new int[] {f.w, f.h, f.things.size(), f.hands, f.landing, f.door, f.carries, f.steps,
        f.landed(f.stands(), -1)}[what];
    }

    long thingOf(int flat, int thing, int what) {
      if (!thing(f(flat), thing) || what < 0 || what > 5) return no(BAD);
      T t = f(flat).things.get(thing);
      return new int[] {t.w, t.h, t.heavy, t.fixed ? 1 : 0, t.plain ? 1 : 0, t.stand}[what];
    }

    static long bits(Set<Integer> cells) {
      long b = 0;
      if (cells != null) for (int c : cells) b |= 1L << c;
      return b;
    }

    long floor(int flat, int what) {
      F f = f(flat);
      if (f == null || what < 0 || what > 2) return 0;
      long floor = 0, covered = bits(f.covered(f.stands(), -1));
      for (int c = 0; c < f.wall.length; c++) if (!f.wall[c]) floor |= 1L << c;
      return what == 0 ? floor : what == 1 ? covered : floor & ~covered;
    }

    int thingAt(F f, int cell) {
      for (int i = 0; i < f.things.size(); i++) {
        Set<Integer> c = f.cells(i, f.things.get(i).stand);
        if (c != null && c.contains(cell)) return i;
      }
      return -1;
    }

    boolean cell(F f, int c) { return f != null && c >= 0 && c < f.w * f.h; }
    long at(int flat, int cell) { return cell(f(flat), cell) ? thingAt(f(flat), cell) : no(BAD); }
    long covers(int flat, int thing, int spot) { return f(flat) == null ? 0 : bits(f(flat).cells(thing, spot)); }

    long wall(int flat, int cell, boolean is) {
      F f = f(flat);
      if (!cell(f, cell)) return no(BAD);
      if (thingAt(f, cell) >= 0) return no(STUCK);
      if (f.wall[cell] == is) return 0;
      f.wall[cell] = is;
      return 1;
    }

    long alter(int flat, int what, int v) {
      F f = f(flat);
      if (f == null || what < 0 || what > 2) return no(BAD);
      if (what == 0 && (v < 1 || v > 3) || what == 1 && (v < 0 || v > 3) || what == 2 && !cell(f, v)) return no(BAD);
      if (what == 1 && v < f.landed(f.stands(), -1)) return no(STUCK);
      int was = what == 0 ? f.hands : what == 1 ? f.landing : f.door;
      if (what == 0) f.hands = v; else if (what == 1) f.landing = v; else f.door = v;
      return was;
    }

    long steps(int flat, int thing, int told) {
      F f = f(flat);
      return f == null || !f.place(thing, told) ? no(BAD) : f.steps(f.stands(), thing, told);
    }

    long reach(int flat, int thing) {
      F f = f(flat);
      return !thing(f, thing) ? no(BAD) : f.walks(f.stands(), thing).size() - 1;
    }

    long carry(int flat, int thing, int told) {
      F f = f(flat);
      if (f == null || !f.place(thing, told)) return no(BAD);
      int n = f.steps(f.stands(), thing, told);
      if (n < 1) return no(STUCK);
      f.things.get(thing).stand = told;
      f.carries++;
      f.steps += n;
      return n;
    }

    long put(int flat, int thing, int told) {
      F f = f(flat);
      if (f == null || !f.place(thing, told)) return no(BAD);
      boolean can = told == 200 ? f.landed(f.stands(), thing) < f.landing : f.canStand(f.stands(), thing, told);
      if (!can) return no(STUCK);
      f.things.get(thing).stand = told;
      return 1;
    }

    long draw(int flat, int d, int thing, int told) {
      F f = f(flat, d);
      if (!thing(f, thing) || told != -1 && !f.place(thing, told)) return no(BAD);
      f.drawings.get(d).set(thing, told);
      return 1;
    }

    long drawn(int flat, int d, int thing) {
      return thing(f(flat, d), thing) ? f(flat).drawings.get(d).get(thing) : no(BAD);
    }

    long take(int flat, int d) {
      F f = f(flat, d);
      if (f == null) return no(BAD);
      f.drawings.set(d, f.stands());
      return f.things.size();
    }

    long judge(int flat, int s, int n, boolean cost) {
      F f = f(flat);
      if (f == null || !shelf(s) || n < 0 || n > 20) return no(BAD);
      S x = shelves[s];
      if (x.holds >= 10) return no(OTHER);
      if (x.holds < 0) return no(NOTHING);
      if (x.v.length < n) return no(BAD);
      List<Integer> stands = f.stands();
      int sum = 0;
      for (int i = 0; i < n; i++) {
        long e = x.v[i];
        long thing = Math.floorDiv(e, 1000L), told = Math.floorMod(e, 1000L);
        int one = thing < 0 || thing >= f.things.size() || !f.place((int) thing, (int) told) ? -1
            : f.steps(stands, (int) thing, (int) told);
        if (one < 1) return cost ? sum : i;
        sum += one;
        stands.set((int) thing, (int) told);
      }
      return cost ? sum : -1;
    }

    /** The calls that ask for one thing of a DRAWING. */
    long ofDrawing(String call, int flat, int d) {
      F f = f(flat, d);
      if (f == null) return no(BAD);
      List<Integer> drawing = f.drawings.get(d);
      int off = f.off(f.stands(), drawing);
      switch (call) {
        case "off": return off;
        case "sound": return f.sound(drawing) ? 1 : 0;
        case "rings": return f.rings(drawing);
        case "bound": return off + (f.rings(drawing) != 0 ? 1 : 0);
        case "shelf": return shelf(f, d);
        case "more": return more(f, d);
        default:
      }
      Se s = new Se(f, d).run(f, 6);
      if (s.state == 3) return no(STUCK);
      switch (call) {
        case "fewest": return s.state == 1 ? s.layer : -1;
        case "least": return s.least;
        case "first": return s.firstOf(f);
        default: return s.all.size();
      }
    }

    long shelf(F f, int d) {
      if (f.things.isEmpty()) return no(STUCK);
      int best = -1, fewest = 0;
      for (int i = 0; i < f.things.size(); i++) {
        F g = f.without(i);
        Se s = new Se(g, d).run(g, 6);
        if (s.state == 3) return no(STUCK);
        if (s.state == 1 && (best < 0 || s.layer < fewest)) { best = i; fewest = s.layer; }
      }
      return best;
    }

    long more(F f, int d) {
      Se now = new Se(f, d).run(f, 6);
      if (now.state == 3) return no(STUCK);
      for (int c = 0; c < f.wall.length; c++) {
        if (!f.wall[c]) continue;
        F g = f.twin();
        g.wall[c] = false;
        Se s = new Se(g, d).run(g, 6);
        if (s.state == 3) return no(STUCK);
        if (s.state == 1 && (now.state != 1 || s.layer < now.layer)) return c;
      }
      return -1;
    }

    long either(int flat) {
      F f = f(flat);
      if (f == null) return no(BAD);
      int best = -1;
      Se least = null;
      for (int d = 0; d < 4; d++) {
        boolean tells = false;
        for (int told : f.drawings.get(d)) tells |= told != -1;
        if (!tells) continue;
        Se s = new Se(f, d).run(f, 6);
        if (s.state == 3) return no(STUCK);
        if (s.state != 1) continue;
        if (least == null || s.layer < least.layer || s.layer == least.layer && s.least < least.least) { best = d; least = s; }
      }
      return best;
    }

    long near(int flat, int d, int k) {
      F f = f(flat, d);
      if (f == null || k < 0 || k > 3) return no(BAD);
      Se s = new Se(f, d).run(f, k);
      if (s.state == 3) return no(STUCK);
      int best = 9;
      for (List<Integer> one : s.all.keySet()) best = Math.min(best, f.off(one, f.drawings.get(d)));
      return best;
    }

    long ever(int flat, int thing) {
      F f = f(flat);
      if (!thing(f, thing)) return 0;
      F g = f.twin();
      List<Integer> stands = g.stands();
      // one that is gone stands nowhere
      for (int i = 0; i < stands.size(); i++) if (i != thing && !g.things.get(i).fixed) stands.set(i, -1);
      Set<Integer> all = new HashSet<>();
      for (int place : g.walks(stands, thing).keySet()) if (place != 200) all.addAll(g.cells(thing, place));
      return bits(all);
    }

    long begin(int flat, int d) {
      if (f(flat, d) == null) return no(BAD);
      searched = f(flat).twin();
      search = new Se(searched, d);
      search.flat = flat;
      return search.state == 1 ? 1 : 0;
    }

    long step() {
      if (search == null || search.state != 0) return no(STUCK);
      return search.deepen(searched);
    }

    long search(int what) {
      if (what < 0 || what > 5) return no(BAD);
      if (search == null) return no(STUCK);
      return new int[] {search.flat, search.drawing, search.layer, Math.min(1001, search.all.size()), search.state,
        search.least}[what];
    }

    long image() {
      kept = new ArrayList<>();
      for (F f : flats) kept.add(f.twin());
      return 1;
    }

    long back() {
      if (kept == null) return no(STUCK);
      flats = new ArrayList<>();
      for (F f : kept) flats.add(f.twin());
      search = null;
      return 1;
    }

    long status(int what) {
      if (what == 0) return flats.size();
      if (what == 1) return tape.length();
      if (what == 2) return Arrays.stream(shelves).filter(s -> s.holds != -1).count();
      return what >= 12 && what <= 16 ? refusals[what - 12] : -1;
    }
  }

  final Random random;
  final int run;
  final boolean large;
  TheOtherRoom x = new TheOtherRoom();
  Model m = new Model();
  List<String> told = new ArrayList<>();
  static int wrong = 0;
  static long answers = 0;
  static final Map<String, Integer> kinds = new TreeMap<>();

  RandomRuns(int run) {
    this.run = run;
    this.random = new Random(7919L * run + 5);
    this.large = run % 10 == 0;
  }

  int n(int bound) { return random.nextInt(bound); }
  boolean chance(int of) { return n(of) == 0; }
  /** Mostly 0 to bound less 1, now and then a number that may not be. */
  int some(int bound) {
    if (!chance(14)) return n(bound);
    int[] odd = {-1, bound, bound + 1, -2, 1000, Integer.MAX_VALUE, Integer.MIN_VALUE};
    return odd[n(odd.length)];
  }

  boolean same(String call, long got, long want) {
    answers++;
    if (told.size() >= 512) throw new IllegalStateException("more calls than are promised");
    String name = call.substring(0, call.indexOf('(')) + (want < 0 ? " " + Math.max(want, -20) : "");
    kinds.merge(name, 1, Integer::sum);
    told.add(call + " -> " + got);
    if (got == want) return true;
    wrong++;
    System.out.println("run " + run + ", call " + told.size() + ": " + call + " answered " + got + ", due is " + want);
    for (String line : told.subList(Math.max(0, told.size() - 60), told.size())) System.out.println("    " + line);
    return false;
  }

  String statement(int w, int h) {
    int cells = w * h, which = n(14);
    if (which < 2) return "wall " + n(cells);
    if (which == 2) return "hands " + (1 + n(3));
    if (which == 3) return "landing " + n(4) + " door " + n(cells);
    String t = "thing " + (1 + n(chance(3) ? 3 : 2)) + " by " + (1 + n(2)) + " at " + n(cells);
    if (chance(4)) t += " turned";
    if (chance(5)) t += " heavy " + (1 + n(3));
    if (chance(8)) t += " fixed";
    return chance(5) ? t + " plain" : t;
  }

  boolean reads(String s) {
    try { read(s); return true; } catch (Fault e) { return false; }
  }

  /** A FLAT, STATEMENT by STATEMENT (those that can't stand mostly left out); now and then a byte of it is another. */
  String tape() {
    int most = large ? 8 : 4;
    int w = 2 + n(most - 1), h = 2 + n(most - 1);
    String s = "board " + w + " by " + h;
    int statements = 2 + n(large ? 10 : 7);
    for (int i = 0; i < statements; i++) {
      String next = s + (chance(3) ? " ; " : ";") + statement(w, h);
      if (next.length() <= 200 && (reads(next) || chance(60))) s = next;
    }
    if (chance(8)) {
      String odd = "abz019;; -A\n\u00ff";
      int i = n(s.length());
      s = s.substring(0, i) + odd.charAt(n(odd.length())) + s.substring(i + n(2));
    }
    if (chance(30)) s = s.substring(0, n(s.length()));
    return s.length() > 200 ? s.substring(0, 200) : s;
  }

  boolean feed(String s) {
    for (int i = 0; i < s.length(); ) {
      int n = Math.min(4, s.length() - i), v = chance(2) ? -1 : 0;
      for (int k = 0; k < n; k++) v = v << 8 | s.charAt(i + k);
      if (!same("feed(" + v + ", " + n + ")", x.feed(v, n), m.feed(v, n))) return false;
      i += n;
    }
    return true;
  }

  /** Tapes until one is a FLAT. */
  boolean build() {
    for (int tries = 0; tries < 5; tries++) {
      String s = tape();
      boolean good = reads(s);
      if (!feed(s) || !same("flat(\"" + s + "\")", x.flat(), m.flat())) return false;
      if (good) return true;
    }
    return true;
  }

  int spot(int flat, int thing) {
    F f = m.f(flat);
    if (f == null || chance(10)) return some(128);
    if (chance(8)) return 200;
    if (thing >= 0 && thing < f.things.size() && !chance(3)) {
      List<Integer> places = new ArrayList<>(f.walks(f.stands(), thing).keySet());
      return places.get(n(places.size()));
    }
    return n(2 * f.w * f.h);
  }

  int thing(int flat) {
    F f = m.f(flat);
    return some(f == null || f.things.isEmpty() ? 6 : f.things.size());
  }

  long value(int flat) {
    int t = n(3);
    if (chance(10)) return random.nextLong();
    if (chance(10)) return n(7000) - 500;
    if (chance(20)) return -1000L * t - n(20);
    return 1000L * t + spot(flat, t);
  }

  String args(Object... all) { return Arrays.toString(all).replace('[', '(').replace(']', ')'); }

  boolean call() {
    int flats = Math.max(1, m.flats.size());
    int flat = some(flats), d = chance(3) ? some(4) : n(2), t = thing(flat), s = spot(flat, t), what = some(9);
    int which = n(52);
    // ROWS mostly in SHELVES 0 and 1, MOVES in 2 and 3
    boolean ofMoves = which >= 6 && which <= 11;
    int shelf = chance(5) ? some(8) : n(2) + (ofMoves ? 2 : 0);
    switch (which) {
      case 0: { int sort = chance(3) ? some(5) : 2, k = chance(3) ? some(41) : n(8);
        return same("row" + args(shelf, sort, k), x.row(shelf, sort, k), m.row(shelf, sort, k)); }
      case 1: case 2: { int i = chance(4) ? some(41) : n(4); long v = value(flat);
        return same("set" + args(shelf, i, v), x.set(shelf, i, v), m.set(shelf, i, v)); }
      case 3: { int q = chance(5) ? some(4) : n(2), i = some(6), j = some(6), k = some(5);
        return same("copy" + args(shelf, q, i, j, k), x.copy(shelf, q, i, j, k), m.copy(shelf, q, i, j, k)); }
      case 4: { int i = some(40); return same("element" + args(shelf, i), x.element(shelf, i), m.element(shelf, i)); }
      case 5: return same("holds" + args(shelf), x.holds(shelf), m.holds(shelf));
      case 6: case 7: { int kind = 1 + some(5), v = kind == 1 ? some(4) : s, thing = chance(3) ? some(6) : t;
        return same("move" + args(shelf, kind, thing, v), x.move(shelf, kind, thing, v), m.move(shelf, kind, thing, v)); }
      case 8: { int kind = some(6); return same("says" + args(shelf, kind), x.says(shelf, kind), m.says(shelf, kind)); }
      case 9: return same("can" + args(flat, shelf), x.can(flat, shelf), m.can(flat, shelf, false));
      case 10: case 11: return same("make" + args(flat, shelf), x.make(flat, shelf), m.can(flat, shelf, true));
      case 12: { int k = some(5), v = random.nextInt(); return same("feed" + args(v, k), x.feed(v, k), m.feed(v, k)); }
      case 13: return same("wipe()", x.wipe(), m.wipe());
      case 14: return chance(3) ? same("flat()", x.flat(), m.flat()) : true;
      case 15: return chance(3) ? same("wipe()", x.wipe(), m.wipe()) && build() : true;
      case 16: return same("flatOf" + args(flat, what), x.flatOf(flat, what), m.flatOf(flat, what));
      case 17: return same("thingOf" + args(flat, t, what), x.thingOf(flat, t, what), m.thingOf(flat, t, what));
      case 18: { int k = some(3); return same("floor" + args(flat, k), x.floor(flat, k), m.floor(flat, k)); }
      case 19: { int c = some(16); return same("at" + args(flat, c), x.at(flat, c), m.at(flat, c)); }
      case 20: return same("covers" + args(flat, t, s), x.covers(flat, t, s), m.covers(flat, t, s));
      case 21: { int c = some(16); boolean is = chance(2);
        return same("wall" + args(flat, c, is), x.wall(flat, c, is), m.wall(flat, c, is)); }
      case 22: { int k = some(3), v = k == 2 ? some(16) : some(4);
        return same("alter" + args(flat, k, v), x.alter(flat, k, v), m.alter(flat, k, v)); }
      case 23: return same("steps" + args(flat, t, s), x.steps(flat, t, s), m.steps(flat, t, s));
      case 24: return same("reach" + args(flat, t), x.reach(flat, t), m.reach(flat, t));
      case 25: case 26: return same("carry" + args(flat, t, s), x.carry(flat, t, s), m.carry(flat, t, s));
      case 27: return same("put" + args(flat, t, s), x.put(flat, t, s), m.put(flat, t, s));
      case 28: return drawAll(flat, d);
      case 29: case 30: { int v = chance(6) ? -1 : s;
        return same("draw" + args(flat, d, t, v), x.draw(flat, d, t, v), m.draw(flat, d, t, v)); }
      case 31: return same("drawn" + args(flat, d, t), x.drawn(flat, d, t), m.drawn(flat, d, t));
      case 32: return same("take" + args(flat, d), x.take(flat, d), m.take(flat, d));
      case 33: return same("off" + args(flat, d), x.off(flat, d), m.ofDrawing("off", flat, d));
      case 34: return same("sound" + args(flat, d), x.sound(flat, d), m.ofDrawing("sound", flat, d));
      case 35: { int k = chance(5) ? some(21) : n(4);
        return same("judge" + args(flat, shelf, k), x.judge(flat, shelf, k), m.judge(flat, shelf, k, false)); }
      case 36: { int k = chance(5) ? some(21) : n(4);
        return same("cost" + args(flat, shelf, k), x.cost(flat, shelf, k), m.judge(flat, shelf, k, true)); }
      case 37: return same("waits" + args(flat, d, t), x.waits(flat, d, t),
          m.thing(m.f(flat, d), t) ? m.f(flat).waits(m.f(flat).drawings.get(d), t) : m.no(BAD));
      case 38: return same("rings" + args(flat, d), x.rings(flat, d), m.ofDrawing("rings", flat, d));
      case 39: return same("bound" + args(flat, d), x.bound(flat, d), m.ofDrawing("bound", flat, d));
      case 40: return same("parts" + args(flat), x.parts(flat), m.f(flat) == null ? m.no(BAD) : m.f(flat).parts());
      case 41: return same("ever" + args(flat, t), x.ever(flat, t), m.ever(flat, t));
      case 42: case 43: return searchCall(flat, d);
      case 44: { int k = some(6); return same("search" + args(k), x.search(k), m.search(k)); }
      case 45: return chance(2) ? same("begin" + args(flat, d), x.begin(flat, d), m.begin(flat, d)) : true;
      case 46: return same("step()", x.step(), m.step());
      case 47: return searchOn(flat, d);
      case 48: return chance(3) ? same("image()", x.image(), m.image()) : true;
      case 49: return chance(3) ? same("back()", x.back(), m.back()) : true;
      default: { int k = chance(2) ? 12 + some(5) : some(3); return same("status" + args(k), x.status(k), m.status(k)); }
    }
  }

  /** A DRAWING by some CARRIES from how all STANDS so that there is something to FIND. */
  boolean drawAll(int flat, int d) {
    F f = m.f(flat);
    if (f == null || d < 0 || d > 3) return true;
    List<Integer> stands = f.stands();
    for (int k = 1 + n(4); k > 0 && !stands.isEmpty(); k--) {
      int t = n(stands.size());
      List<Integer> places = new ArrayList<>(f.walks(stands, t).keySet());
      stands.set(t, places.get(n(places.size())));
    }
    for (int t = 0; t < stands.size(); t++) {
      int v = chance(4) ? -1 : stands.get(t);
      if (!same("draw" + args(flat, d, t, v), x.draw(flat, d, t, v), m.draw(flat, d, t, v))) return false;
    }
    return true;
  }

  /** A SEARCH, with other calls between its STEPS now and then. */
  boolean searchOn(int flat, int d) {
    if (!same("begin" + args(flat, d), x.begin(flat, d), m.begin(flat, d))) return false;
    for (int i = 0; i < 7; i++) {
      for (int k = 0; k < 6; k++) if (!same("search" + args(k), x.search(k), m.search(k))) return false;
      if (chance(2) && !meddle(flat, d)) return false;
      if (!same("step()", x.step(), m.step())) return false;
      if (m.search == null || m.search.state != 0) break;
    }
    for (int k = 0; k < 6; k++) if (!same("search" + args(k), x.search(k), m.search(k))) return false;
    return true;
  }

  /** A call that makes the FLAT another one while a SEARCH of it is under way. */
  boolean meddle(int flat, int d) {
    int t = thing(flat), s = spot(flat, t), c = some(16), k = some(3), v = k == 2 ? c : some(4);
    boolean is = chance(2);
    switch (n(7)) {
      case 0: return same("carry" + args(flat, t, s), x.carry(flat, t, s), m.carry(flat, t, s));
      case 1: return same("put" + args(flat, t, s), x.put(flat, t, s), m.put(flat, t, s));
      case 2: return same("take" + args(flat, d), x.take(flat, d), m.take(flat, d));
      case 3: return same("draw" + args(flat, d, t, s), x.draw(flat, d, t, s), m.draw(flat, d, t, s));
      case 4: return same("wall" + args(flat, c, is), x.wall(flat, c, is), m.wall(flat, c, is));
      case 5: return same("alter" + args(flat, k, v), x.alter(flat, k, v), m.alter(flat, k, v));
      default: return searchCall(flat, d);
    }
  }

  /** The dear calls; on large boards rarely. */
  boolean searchCall(int flat, int d) {
    if (large && !chance(4)) return true;
    switch (n(8)) {
      case 0: return same("fewest" + args(flat, d), x.fewest(flat, d), m.ofDrawing("fewest", flat, d));
      case 1: return same("least" + args(flat, d), x.least(flat, d), m.ofDrawing("least", flat, d));
      case 2: return same("first" + args(flat, d), x.first(flat, d), m.ofDrawing("first", flat, d));
      case 3: return same("states" + args(flat, d), x.states(flat, d), m.ofDrawing("states", flat, d));
      case 4: return same("either" + args(flat), x.either(flat), m.either(flat));
      case 5: return same("shelf" + args(flat, d), x.shelf(flat, d), m.ofDrawing("shelf", flat, d));
      case 6: { int k = some(4); return same("near" + args(flat, d, k), x.near(flat, d, k), m.near(flat, d, k)); }
      default: return same("more" + args(flat, d), x.more(flat, d), m.ofDrawing("more", flat, d));
    }
  }

  void go() {
    if (!build()) return;
    while (chance(2)) if (!build()) return;
    while (told.size() < 400) if (!call()) return;
  }

  public static void main(String[] args) {
    for (int run = 0; run < RUNS && wrong < 5; run++) new RandomRuns(run).go();
    if (args.length > 0) System.out.println(kinds);
    System.out.println("RandomRuns: " + answers + " answers beside the model, " + wrong + " wrong");
    if (wrong != 0) System.exit(1);
  }
}
