import java.util.ArrayList;
import java.util.List;
import java.util.regex.Matcher;
import java.util.regex.Pattern;

/**
 * Long runs of calls by a seeded lot, good arguments and bad ones mixed, each answer held against a second
 * program that reads the document another way: it walks step by step, tries texts by a regular expression,
 * ORDERS by recursion, PAYMENTS by trying who pays whom.
 */
public final class ModelTest {
  private static final int RUNS = 1500;
  private static final int CALLS = 512;
  private static long lot = 20261118L;

  public static void main(String[] args) {
    for (int run = 0; run < RUNS; run++) oneRun(run);
    Due.end("ModelTest");
  }

  private static int draw(int below) {
    lot = lot * 6364136223846793005L + 1442695040888963407L;
    return (int) ((lot >>> 33) % below);
  }

  private static int wild() {
    int[] ends = {Integer.MIN_VALUE, Integer.MIN_VALUE + 1, -1000, -2, -1, 0, 1, 96, 255, 256, 1000, Integer.MAX_VALUE - 1, Integer.MAX_VALUE};
    return ends[draw(ends.length)];
  }

  /** Mostly within least .. greatest, at times one off, at times far off. */
  private static int near(int least, int greatest) {
    int way = draw(40);
    if (way == 0) return wild();
    if (way == 1) return least - 1;
    if (way == 2) return greatest + 1;
    return least + draw(greatest - least + 1);
  }

  private static void oneRun(int run) {
    LightAsFarAsThePump x = new LightAsFarAsThePump();
    Model m = new Model();
    int calls = 0;
    boolean dear = run % 10 == 0;
    while (calls < CALLS) {
      if (draw(4) == 0) {
        String text = text();
        for (int i = 0; i < text.length() && calls < CALLS; i++, calls++)
          Due.is("run " + run + " letter", x.letter(text.charAt(i)), m.letter(text.charAt(i)));
        if (calls++ < CALLS) Due.is("run " + run + " night " + text, x.night(), m.night());
      } else {
        for (int i = 0; i < 12 && calls < CALLS; i++, calls++) oneCall(x, m, run, dear);
      }
    }
  }

  private static String two(int number) {
    return "" + (char) ('0' + number / 10) + (char) ('0' + number % 10);
  }

  private static String statement() {
    int hour = draw(60) == 0 ? 12 : draw(12);
    int cell = draw(60) == 0 ? 40 + draw(60) : draw(40);
    switch (draw(11)) {
      case 0: return "p" + two(cell) + ";";
      case 1: return "o" + draw(3) + two(draw(100)) + ";";
      case 2: return "d" + draw(10) + ";";
      case 3: return "x" + draw(7) + draw(7) + ";";
      case 4: return "h" + draw(7) + two(hour) + ";";
      default: {
        int middle = 10 + draw(20);
        int from = draw(2) == 0 ? middle + draw(10) - draw(10) : draw(40);
        return "g" + "gdmctl".charAt(draw(6)) + draw(10) + two(from) + two(cell) + two(hour) + ";";
      }
    }
  }

  private static String text() {
    StringBuilder text = new StringBuilder();
    int statements = 1 + draw(draw(4) == 0 ? 10 : 3);
    for (int i = 0; i < statements; i++) text.append(statement());
    int way = draw(12);
    int at = draw(text.length());
    if (way == 0) text.setLength(at);
    if (way == 1) text.deleteCharAt(at);
    if (way == 2) text.insert(at, (char) draw(256));
    if (way == 3) text.setCharAt(at, "gdmctlpoxh;0123456789:/".charAt(draw(23)));
    return text.toString();
  }

  private static void oneCall(LightAsFarAsThePump x, Model m, int run, boolean dear) {
    int g = near(0, Math.max(0, m.now.size() - 1));
    int n = draw(29);
    String at = "run " + run + " call ";
    switch (n) {
      case 0: { int c = near(0, 255); Due.is(at + "letter", x.letter(c), m.letter(c)); break; }
      case 1: Due.is(at + "night", x.night(), m.night()); break;
      case 2: { int w = near(0, 6); Due.is(at + "goer " + w, x.goer(g, w), m.goer(g, w)); break; }
      case 3: { int v = near(0, 11); Due.is(at + "hour", x.hour(g, v), m.hour(g, v)); break; }
      case 4: { int w = near(0, 2); int v = near(0, w == 0 ? 39 : w == 1 ? 200 : 9); Due.is(at + "set", x.set(w, v), m.set(w, v)); break; }
      case 5: { int w = near(0, 6); Due.is(at + "sums " + w, x.sums(w), m.sums(w)); break; }
      case 6: { int w = near(0, 4); Due.is(at + "of " + w, x.of(g, w), m.of(g, w)); break; }
      case 7: { int h = near(0, 11); Due.is(at + "lamp", x.lamp(h), m.lamp(h)); break; }
      case 8: case 9:
        if (dear || m.now.size() > 6 || m.now.size() < 4) {
          int w = near(0, 1); int i = near(-1, 6); Due.is(at + "best " + w + " " + i, x.best(w, i), m.best(w, i));
        }
        break;
      case 10: Due.is(at + "bestPump", x.bestPump(), m.bestPump()); break;
      case 11: Due.is(at + "bestHour", x.bestHour(g), m.bestHour(g)); break;
      case 12: Due.is(at + "without", x.without(g), m.without(g)); break;
      case 13: { int c = near(0, 39); Due.is(at + "second", x.second(c), m.second(c)); break; }
      case 14: Due.is(at + "bestSecond", x.bestSecond(), m.bestSecond()); break;
      case 15: Due.is(at + "net", x.net(g), m.net(g)); break;
      case 16: Due.is(at + "payments", x.payments(), m.payments()); break;
      case 17: { int h = near(0, 11); int c = near(0, 39); Due.is(at + "near", x.near(h, c), m.near(h, c)); break; }
      case 18: { int c = near(0, 39); Due.is(at + "midwife", x.midwife(c), m.midwife(c)); break; }
      case 19: Due.is(at + "watch", x.watch(), m.watch()); break;
      case 20: { int w = near(0, 1); Due.is(at + "whoHad " + w, x.whoHad(g, w), m.whoHad(g, w)); break; }
      case 21: if (draw(5) == 0) Due.is(at + "leastOil", x.leastOil(), m.leastOil()); break;
      case 22: oneRow(x, m, at); break;
      case 23: Due.is(at + "judge", x.judge(), m.judge()); break;
      case 24: Due.is(at + "clear", x.clear(), m.clear()); break;
      case 25: { int k = near(1, 20); int z = draw(2) == 0 ? wild() : draw(1000000); int w = near(0, 1); Due.is(at + "lots " + w, x.lots(k, z, w), m.lots(k, z, w)); break; }
      case 26: Due.is(at + "image", x.image(), m.image()); break;
      case 27: Due.is(at + "on", x.on(), m.on()); break;
      default: { int w = near(0, 17); Due.is(at + "count " + w, x.count(w), m.count(w)); }
    }
  }

  /** A number for the ROW, mostly one that is so. */
  private static void oneRow(LightAsFarAsThePump x, Model m, String at) {
    int times = draw(13);
    for (int i = 0; i < times; i++) {
      int v = draw(12) == 0 || m.row.size() > 11 ? near(0, 99) : m.walk(m.now, m.pump, m.oil, -1).ends[m.row.size()];
      Due.is(at + "row", x.row(v), m.row(v));
    }
  }

  private record Goer(int kind, int figure, int from, int to, int hour) { }

  private static final class Night {
    int cost, dark, light, lamp, oil, takers, last = -9;
    final int[] ends = new int[12];
    final int[][] of;
    final int[] net;

    Night(int goers) { of = new int[goers][5]; net = new int[goers]; }
  }

  private static final class Model {
    private static final Pattern NIGHT = Pattern.compile("(g[gdmctl][0-9]{7};|p[0-9]{2};|o[0-9]{3};|d[0-9];|x[0-9]{2};|h[0-9]{3};)+");
    List<Goer> now = new ArrayList<>();
    List<Integer> row = new ArrayList<>();
    int pump = 20, oil = 100, dark = 3;
    private final StringBuilder told = new StringBuilder();
    private final int[] refused = new int[7];
    private List<Goer> imageGoers = null;
    private int imagePump, imageOil, imageDark;

    private int no(int refusal) { refused[-refusal]++; return refusal; }
    private boolean nobody(int g) { return g < 0 || g >= now.size(); }
    private static boolean noCell(int c) { return c < 0 || c > 39; }

    int letter(int c) {
      if (c < 0) return no(-4);
      if (c > 255 || told.length() == 96) return no(-6);
      told.append((char) c);
      return told.length();
    }

    int night() {
      String text = told.toString();
      told.setLength(0);
      for (int i = 1; i <= text.length(); i++) {
        Matcher m = NIGHT.matcher(text.substring(0, i));
        if (!m.matches() && !m.hitEnd()) return -1000 - (i - 1);
      }
      if (!NIGHT.matcher(text).matches()) return -1000 - text.length();
      List<Goer> goers = new ArrayList<>(now);
      int[] set = {pump, oil, dark};
      int place = 0;
      String[] statements = text.split(";");
      for (String s : statements) {
        if (!comes(s, goers, set)) return -2000 - place;
        place += s.length() + 1;
      }
      now = goers;
      pump = set[0];
      oil = set[1];
      dark = set[2];
      return statements.length;
    }

    private static boolean comes(String s, List<Goer> goers, int[] set) {
      char c = s.charAt(0);
      if (c == 'g') {
        Goer one = new Goer("gdmctl".indexOf(s.charAt(1)), num(s, 2, 3), num(s, 3, 5), num(s, 5, 7), num(s, 7, 9));
        if (noCell(one.from) || noCell(one.to) || one.hour > 11 || goers.size() == 7) return false;
        return goers.add(one);
      }
      if (c == 'x') {
        int a = num(s, 1, 2), b = num(s, 2, 3);
        if (a == b || Math.max(a, b) >= goers.size()) return false;
        int hourOfA = goers.get(a).hour;
        goers.set(a, at(goers.get(a), goers.get(b).hour));
        goers.set(b, at(goers.get(b), hourOfA));
        return true;
      }
      if (c == 'h') {
        int a = num(s, 1, 2);
        if (a >= goers.size() || num(s, 2, 4) > 11) return false;
        goers.set(a, at(goers.get(a), num(s, 2, 4)));
        return true;
      }
      int v = num(s, 1, s.length());
      int what = "pod".indexOf(c);
      if (v > new int[] {39, 200, 9}[what]) return false;
      set[what] = v;
      return true;
    }

    private static int num(String s, int from, int to) { return Integer.parseInt(s.substring(from, to)); }
    private static Goer at(Goer g, int hour) { return new Goer(g.kind, g.figure, g.from, g.to, hour); }
    private static Goer as(Goer g, int kind, int figure) { return new Goer(kind, figure, g.from, g.to, g.hour); }

    private static int fetch(Goer g) { return new int[] {6, 0, 39, 6 + g.figure, 6, 6}[g.kind]; }
    private int price(Goer g) { return new int[] {dark, dark / 2, dark * 2, dark + 1, 0, 0}[g.kind]; }

    Night walk(List<Goer> goers, int itsPump, int itsOil, int second) {
      List<Integer> order = new ArrayList<>();
      int[] hours = new int[goers.size()];
      for (int h = 0; h < 12; h++) for (int g = 0; g < goers.size(); g++) if (goers.get(g).hour == h) order.add(g);
      for (int i = 0; i < order.size(); i++) hours[i] = goers.get(order.get(i)).hour;
      return walk(goers, order, hours, itsPump, itsOil, second);
    }

    /** Step by step: a LAMP is {CELL, OIL}. */
    private Night walk(List<Goer> goers, List<Integer> order, int[] hours, int itsPump, int itsOil, int second) {
      Night night = new Night(goers.size());
      int[][] lamps = second < 0 ? new int[][] {{itsPump, itsOil}} : new int[][] {{itsPump, itsOil}, {second, itsOil}};
      for (int h = 0; h < 12; h++) night.ends[h] = itsPump;
      int debtor = -1;
      for (int i = 0; i < order.size(); i++) {
        int g = order.get(i);
        Goer one = goers.get(g);
        if (debtor >= 0) {
          int owed = Math.abs(lamps[0][0] - one.from) - Math.abs(itsPump - one.from);
          if (owed > 0) { night.net[debtor] -= owed; night.net[g] += owed; }
        }
        night.of[g][3] = lamps[0][0];
        int[] lamp = null;
        for (int[] l : lamps) if (l[1] > 0 && (lamp == null || Math.abs(l[0] - one.from) < Math.abs(lamp[0] - one.from))) lamp = l;
        if (lamp != null && Math.abs(lamp[0] - one.from) > fetch(one)) lamp = null;
        int[] took = goes(one, lamp, itsPump);
        night.of[g][0] = took[0];
        night.of[g][1] = took[1];
        night.of[g][2] = took[0] * price(one);
        night.of[g][4] = lamp == null ? 0 : 1;
        night.cost += night.of[g][2];
        night.dark += took[0];
        night.light += took[1];
        if (lamp != null) { night.takers++; night.last = g; }
        debtor = lamp != null ? g : -1;
        for (int h = hours[i]; h < 12; h++) night.ends[h] = lamps[0][0];
      }
      night.lamp = lamps[0][0];
      night.oil = lamps[0][1];
      return night;
    }

    /** {dark steps, steps in light}; the LAMP goes along. */
    private static int[] goes(Goer one, int[] lamp, int itsPump) {
      int[] took = new int[2];
      int at = one.from;
      if (lamp == null) {
        while (at != one.to) { at += Integer.signum(one.to - at); took[0]++; }
        return took;
      }
      while (at != lamp[0]) { at += Integer.signum(lamp[0] - at); took[0]++; }
      int leave = one.kind == 1 ? Math.max(0, Math.abs(one.to - at) - one.figure) : one.kind == 5 ? 0 : Math.abs(one.to - at);
      for (int step = 0; step < leave; step++) { at += Integer.signum(one.to - at); carry(lamp, at, took); }
      while (at != one.to) { at += Integer.signum(one.to - at); took[0]++; }
      if (one.kind == 3) while (lamp[0] != itsPump) carry(lamp, lamp[0] + Integer.signum(itsPump - lamp[0]), took);
      if (one.kind == 4) while (lamp[0] != one.from) carry(lamp, lamp[0] + Integer.signum(one.from - lamp[0]), took);
      return took;
    }

    private static void carry(int[] lamp, int to, int[] took) {
      lamp[0] = to;
      if (lamp[1] > 0) { lamp[1]--; took[1]++; } else took[0]++;
    }

    private Night tonight() { return walk(now, pump, oil, -1); }
    private int cost(List<Goer> goers) { return walk(goers, pump, oil, -1).cost; }

    int goer(int g, int what) {
      if (nobody(g)) return no(-1);
      if (what < 0 || what > 6) return no(-2);
      Goer one = now.get(g);
      return new int[] {one.kind, one.figure, one.from, one.to, one.hour, fetch(one), price(one)}[what];
    }

    int hour(int g, int v) {
      if (nobody(g)) return no(-1);
      if (v < 0) return no(-4);
      if (v > 11) return no(-6);
      int was = now.get(g).hour;
      now.set(g, at(now.get(g), v));
      return was;
    }

    int set(int what, int v) {
      if (what < 0 || what > 2) return no(-2);
      if (v < 0) return no(-4);
      if (v > (what == 0 ? 39 : what == 1 ? 200 : 9)) return no(-6);
      int was = what == 0 ? pump : what == 1 ? oil : dark;
      if (what == 0) pump = v; else if (what == 1) oil = v; else dark = v;
      return was;
    }

    int sums(int what) {
      if (what < 0 || what > 6) return no(-2);
      Night n = tonight();
      return new int[] {n.cost, n.dark, n.light, n.lamp, n.oil, n.takers, n.last}[what];
    }

    int of(int g, int what) {
      if (nobody(g)) return no(-1);
      if (what < 0 || what > 4) return no(-2);
      return tonight().of[g][what];
    }

    int lamp(int h) {
      if (h < 0) return no(-4);
      if (h > 11) return no(-6);
      return tonight().ends[h];
    }

    int best(int what, int i) {
      if (what != 0 && what != 1) return no(-2);
      if (now.size() > 6) return no(-3);
      if (i < -1) return no(-4);
      if (i >= now.size()) return no(-1);
      List<List<Integer>> all = new ArrayList<>();
      orders(new ArrayList<>(), all);
      List<Integer> best = null;
      int least = 0;
      for (List<Integer> order : all) {
        Night n = walk(now, order, new int[order.size()], pump, oil, -1);
        if (what == 1 && n.lamp != pump) continue;
        if (best == null || n.cost < least) { best = order; least = n.cost; }
      }
      if (best == null) return -9;
      return i == -1 ? least : best.get(i);
    }

    private void orders(List<Integer> begun, List<List<Integer>> all) {
      if (begun.size() == now.size()) all.add(begun);
      for (int g = 0; g < now.size(); g++)
        if (!begun.contains(g)) {
          List<Integer> longer = new ArrayList<>(begun);
          longer.add(g);
          orders(longer, all);
        }
    }

    private static int firstLeast(int[] costs) {
      int best = 0;
      for (int i = 0; i < costs.length; i++) if (costs[i] < costs[best]) best = i;
      return best;
    }

    int bestPump() {
      int[] costs = new int[40];
      for (int c = 0; c < 40; c++) costs[c] = walk(now, c, oil, -1).cost;
      return firstLeast(costs);
    }

    int bestHour(int g) {
      if (nobody(g)) return no(-1);
      int[] costs = new int[12];
      for (int h = 0; h < 12; h++) {
        List<Goer> other = new ArrayList<>(now);
        other.set(g, at(now.get(g), h));
        costs[h] = cost(other);
      }
      return firstLeast(costs);
    }

    int without(int g) {
      if (nobody(g)) return 1000000000 - no(-1);
      List<Goer> other = new ArrayList<>(now);
      other.remove(g);
      return cost(now) - cost(other);
    }

    int second(int c) {
      if (noCell(c)) return 1000000000 - no(-1);
      return cost(now) - walk(now, pump, oil, c).cost;
    }

    int bestSecond() {
      int[] costs = new int[40];
      for (int c = 0; c < 40; c++) costs[c] = walk(now, pump, oil, c).cost;
      return firstLeast(costs);
    }

    int net(int g) {
      if (nobody(g)) return 1000000000 - no(-1);
      return tonight().net[g];
    }

    int payments() { return fewest(tonight().net.clone(), 0); }

    /** The first who owes or is owed settles all of it with one of the other sign; whichever is best. */
    private static int fewest(int[] net, int first) {
      int i = first;
      while (i < net.length && net[i] == 0) i++;
      if (i == net.length) return 0;
      int best = 1000;
      for (int j = i + 1; j < net.length; j++)
        if (net[i] < 0 != net[j] < 0 && net[j] != 0) {
          net[j] += net[i];
          best = Math.min(best, 1 + fewest(net, i + 1));
          net[j] -= net[i];
        }
      return best;
    }

    int near(int h, int c) {
      if (h < 0) return no(-4);
      if (h > 11) return no(-6);
      if (noCell(c)) return no(-1);
      return Math.abs(tonight().ends[h] - c);
    }

    int midwife(int c) {
      if (noCell(c)) return no(-1);
      int[] steps = new int[12];
      for (int h = 0; h < 12; h++) steps[h] = -Math.abs(tonight().ends[h] - c);
      return firstLeast(steps);
    }

    int watch() {
      int bits = 0;
      for (int h = 0; h < 12; h++) {
        int lamp = tonight().ends[h];
        boolean all = now.stream().allMatch(g -> Math.abs(g.from - lamp) > 3 && Math.abs(g.to - lamp) > 3);
        if (all) bits += 1 << h;
      }
      return bits;
    }

    private int wrongAt(List<Goer> goers) {
      int[] ends = walk(goers, pump, oil, -1).ends;
      for (int i = 0; i < row.size(); i++) if (ends[i] != row.get(i)) return i;
      return -9;
    }

    int whoHad(int g, int what) {
      if (nobody(g)) return no(-1);
      if (what != 0 && what != 1) return no(-2);
      int bits = 0;
      for (int v = 0; v < (what == 0 ? 6 : 10); v++) {
        List<Goer> other = new ArrayList<>(now);
        other.set(g, what == 0 ? as(now.get(g), v, now.get(g).figure) : as(now.get(g), now.get(g).kind, v));
        if (wrongAt(other) == -9) bits += 1 << v;
      }
      return bits;
    }

    int leastOil() {
      int due = walk(now, pump, 200, -1).cost;
      int o = 0;
      while (walk(now, pump, o, -1).cost != due) o++;
      return o;
    }

    int row(int v) {
      if (v < 0) return no(-4);
      if (v > 99 || row.size() == 12) return no(-6);
      row.add(v);
      return row.size();
    }

    int judge() {
      int answer = wrongAt(now);
      row.clear();
      return answer;
    }

    int clear() {
      int had = row.size();
      row.clear();
      return had;
    }

    int lots(int n, int z, int what) {
      if (n < 1) return no(-4);
      if (n > 20) return no(-6);
      if (what != 0 && what != 1) return no(-2);
      int cost = 0, back = 0;
      long seed = z;
      for (int i = 0; i < n; i++) {
        List<Goer> other = new ArrayList<>();
        for (Goer g : now) {
          seed = (int) (seed * 1664525L + 1013904223L);
          other.add(at(g, (int) ((seed & 0x7fffffffL) / 256 % 12)));
        }
        Night night = walk(other, pump, oil, -1);
        cost += night.cost;
        if (night.lamp == pump) back++;
      }
      return what == 0 ? cost : back;
    }

    int image() {
      imageGoers = new ArrayList<>(now);
      imagePump = pump;
      imageOil = oil;
      imageDark = dark;
      return now.size();
    }

    int on() {
      if (imageGoers == null) return no(-3);
      now = new ArrayList<>(imageGoers);
      pump = imagePump;
      oil = imageOil;
      dark = imageDark;
      return now.size();
    }

    int count(int what) {
      if (what >= 11 && what <= 16) return refused[what - 10];
      if (what < 0 || what > 6) return -9;
      int steps = now.stream().mapToInt(g -> Math.abs(g.from - g.to)).sum();
      return new int[] {now.size(), pump, oil, dark, steps, row.size(), told.length()}[what];
    }
  }
}
