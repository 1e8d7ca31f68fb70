import java.util.ArrayDeque;
import java.util.ArrayList;
import java.util.List;
import java.util.regex.Matcher;
import java.util.regex.Pattern;

/** The document once more, by other and plainer means: every order, set and mark is simply tried. */
final class Model {
  static final int BAD = -1, STATE = -2, FULL = -3, NONE = -9;

  static final class Scale {
    int mark, told, sticks, room, fell;
  }

  static final class Egg {
    int weight, kind, where;
  }

  static final class World {
    final List<Scale> scales = new ArrayList<>();
    final List<Egg> eggs = new ArrayList<>();
    final List<Integer> row = new ArrayList<>();

    World copy() {
      World w = new World();
      for (Scale s : scales) {
        Scale t = new Scale();
        t.mark = s.mark;
        t.told = s.told;
        t.sticks = s.sticks;
        t.room = s.room;
        t.fell = s.fell;
        w.scales.add(t);
      }
      for (Egg e : eggs) {
        Egg f = new Egg();
        f.weight = e.weight;
        f.kind = e.kind;
        f.where = e.where;
        w.eggs.add(f);
      }
      w.row.addAll(row);
      return w;
    }

    int seems(int e) {
      Egg egg = eggs.get(e);
      if (egg.kind == 2 || egg.kind == 4) {
        return egg.weight + 3;
      }
      return egg.kind == 5 ? (int) Math.floor(egg.weight / 2.0) : egg.weight;
    }

    long bits(int where) {
      long bits = 0;
      for (int e = 0; e < eggs.size(); e++) {
        bits += eggs.get(e).where == where ? 1L << e : 0;
      }
      return bits;
    }

    int roll(int e) {
      Egg egg = eggs.get(e);
      for (int s : row) {
        Scale scale = scales.get(s);
        int stiff = scale.sticks > 0 ? scale.fell / scale.sticks : 0;
        boolean tips = seems(e) >= scale.mark + stiff;
        if (tips && Long.bitCount(bits(s + 1)) < scale.room) {
          scale.fell = scale.fell < 999 ? scale.fell + 1 : 999;
          egg.where = s + 1;
          return s;
        }
        if (egg.kind == 3 && egg.weight > 1) {
          egg.weight--;
        }
      }
      egg.where = 8;
      return NONE;
    }

    int belongs(int e) {
      for (int s : row) {
        if (scales.get(s).mark <= eggs.get(e).weight) {
          return s;
        }
      }
      return NONE;
    }

    int right() {
      int bits = 0;
      for (int e = 0; e < eggs.size(); e++) {
        int due = belongs(e) == NONE ? 8 : belongs(e) + 1;
        bits += eggs.get(e).where == due ? 1 << e : 0;
      }
      return bits;
    }

    int fell() {
      int sum = 0;
      for (Scale s : scales) {
        sum += s.fell;
      }
      return sum;
    }
  }

  World w = new World();
  final ArrayDeque<World> past = new ArrayDeque<>();
  World[] images = new World[2];
  final List<int[]> tests = new ArrayList<>();
  String text = "";
  long trace = 0;

  int type(int letter) {
    if (letter < 0 || letter > 255) {
      return BAD;
    }
    if (text.length() == 120) {
      return FULL;
    }
    text += (char) letter;
    return text.length();
  }

  int clear() {
    int had = text.length();
    text = "";
    return had;
  }

  int barn() {
    List<String> tokens = new ArrayList<>();
    List<Integer> places = new ArrayList<>();
    Matcher m = Pattern.compile("[0-9]+|[^ ]", Pattern.DOTALL).matcher(text);
    while (m.find()) {
      tokens.add(m.group());
      places.add(m.start());
    }
    World read = new World();
    int items = 0;
    int at = 0;
    while (at < tokens.size()) {
      int[][] spans;
      if (tokens.get(at).equals("s") && read.scales.size() < 5) {
        spans = new int[][] {{1, 99}, {0, 9}, {1, 9}};
      } else if (tokens.get(at).equals("e") && read.eggs.size() < 6) {
        spans = new int[][] {{1, 99}, {0, 5}};
      } else {
        return -10 - places.get(at);
      }
      at++;
      int[] numbers = new int[spans.length];
      for (int i = 0; i <= spans.length; i++, at++) {
        if (at == tokens.size()) {
          return -10 - text.length();
        }
        String token = tokens.get(at);
        boolean stands = i == spans.length ? token.equals(";") : token.matches("0|[1-9][0-9]?")
            && Integer.parseInt(token) >= spans[i][0] && Integer.parseInt(token) <= spans[i][1];
        if (!stands) {
          return -10 - places.get(at);
        }
        if (i < spans.length) {
          numbers[i] = Integer.parseInt(token);
        }
      }
      add(read, numbers);
      items++;
    }
    w = read;
    past.clear();
    images = new World[2];
    tests.clear();
    text = "";
    return items;
  }

  private static void add(World read, int[] numbers) {
    if (numbers.length == 3) {
      Scale s = new Scale();
      s.mark = numbers[0];
      s.told = numbers[0];
      s.sticks = numbers[1];
      s.room = numbers[2];
      read.row.add(read.scales.size());
      read.scales.add(s);
    } else {
      Egg e = new Egg();
      e.weight = numbers[0];
      e.kind = numbers[1];
      read.eggs.add(e);
    }
  }

  boolean noScale(int s) {
    return s < 0 || s >= w.scales.size();
  }

  boolean noEgg(int e) {
    return e < 0 || e >= w.eggs.size();
  }

  int scale(int s, int what) {
    if (noScale(s) || what < 0 || what > 5) {
      return BAD;
    }
    Scale scale = w.scales.get(s);
    return new int[] {scale.mark, scale.sticks, scale.room, scale.fell, w.row.indexOf(s), (int) w.bits(s + 1)}[what];
  }

  int egg(int e, int what) {
    if (noEgg(e) || what < 0 || what > 4) {
      return BAD;
    }
    Egg egg = w.eggs.get(e);
    return new int[] {egg.weight, egg.kind, egg.where, w.seems(e), w.belongs(e)}[what];
  }

  int now(int what) {
    if (what < 0 || what > 4) {
      return BAD;
    }
    return new int[] {(int) w.bits(0), (int) w.bits(8), w.right(), w.fell(), past.size()}[what];
  }

  private void remember() {
    past.addLast(w.copy());
    if (past.size() > 10) {
      past.removeFirst();
    }
  }

  int rolls(int e) {
    if (noEgg(e)) {
      return BAD;
    }
    if (w.eggs.get(e).where != 0) {
      return STATE;
    }
    remember();
    return w.roll(e);
  }

  int takes(int e) {
    if (noEgg(e)) {
      return BAD;
    }
    int where = w.eggs.get(e).where;
    if (where == 0 || where == 9) {
      return STATE;
    }
    remember();
    w.eggs.get(e).where = 0;
    return Long.bitCount(w.bits(0));
  }

  int wipes(int s) {
    if (noScale(s)) {
      return BAD;
    }
    int fell = w.scales.get(s).fell;
    if (fell == 0) {
      return STATE;
    }
    remember();
    w.scales.get(s).fell = 0;
    return fell;
  }

  int sets(int s, int mark) {
    if (noScale(s) || mark < 1 || mark > 99) {
      return BAD;
    }
    int had = w.scales.get(s).mark;
    if (had == mark) {
      return STATE;
    }
    remember();
    w.scales.get(s).mark = mark;
    return had;
  }

  int shifts(int s) {
    if (noScale(s)) {
      return BAD;
    }
    int place = w.row.indexOf(s);
    if (place == w.row.size() - 1) {
      return STATE;
    }
    remember();
    w.row.remove(place);
    w.row.add(place + 1, s);
    return place + 1;
  }

  int drops(int e) {
    if (noEgg(e)) {
      return BAD;
    }
    int where = w.eggs.get(e).where;
    if (where == 9) {
      return STATE;
    }
    remember();
    w.eggs.get(e).where = 9;
    return where;
  }

  int undo() {
    if (past.isEmpty()) {
      return STATE;
    }
    w = past.removeLast();
    return past.size();
  }

  int goes(int e) {
    if (noEgg(e)) {
      return BAD;
    }
    return w.eggs.get(e).where != 0 ? STATE : w.copy().roll(e);
  }

  /** All orders of some numbers, the lowest first. */
  private static List<List<Integer>> orders(List<Integer> of) {
    List<List<Integer>> all = new ArrayList<>();
    if (of.isEmpty()) {
      all.add(new ArrayList<>());
    }
    for (Integer first : of) {
      List<Integer> rest = new ArrayList<>(of);
      rest.remove(first);
      for (List<Integer> tail : orders(rest)) {
        tail.add(0, first);
        all.add(tail);
      }
    }
    return all;
  }

  private List<Integer> nest() {
    List<Integer> nest = new ArrayList<>();
    for (int e = 0; e < w.eggs.size(); e++) {
      if (w.eggs.get(e).where == 0) {
        nest.add(e);
      }
    }
    return nest;
  }

  int order(int k) {
    if (k < -1 || k > 5) {
      return BAD;
    }
    int most = -1;
    List<Integer> best = null;
    for (List<Integer> order : orders(nest())) {
      World tried = w.copy();
      for (int e : order) {
        tried.roll(e);
      }
      if (Integer.bitCount(tried.right()) > most) {
        most = Integer.bitCount(tried.right());
        best = order;
      }
    }
    return k == -1 ? most : k < best.size() ? best.get(k) : NONE;
  }

  int row(int k) {
    if (k < -1 || k >= w.scales.size()) {
      return BAD;
    }
    List<Integer> numbers = new ArrayList<>(w.row);
    numbers.sort(null);
    int most = -1;
    List<Integer> best = null;
    for (List<Integer> order : orders(numbers)) {
      World tried = w.copy();
      tried.row.clear();
      tried.row.addAll(order);
      for (int e : nest()) {
        tried.roll(e);
      }
      if (Integer.bitCount(tried.right()) > most) {
        most = Integer.bitCount(tried.right());
        best = order;
      }
    }
    return k == -1 ? most : best.get(k);
  }

  int reset(int e, int s) {
    if (noEgg(e) || noScale(s)) {
      return BAD;
    }
    if (w.eggs.get(e).where != 0) {
      return STATE;
    }
    return leastFrom(w.copy(), e, s, 0);
  }

  /** Tries each mark of the scale at a place of the row; scales behind the one told do not matter. */
  private int leastFrom(World tried, int e, int s, int place) {
    int at = tried.row.get(place);
    int had = tried.scales.get(at).mark;
    int least = Integer.MAX_VALUE;
    boolean known = false;
    int behind = NONE;
    for (int mark = 1; mark <= 99; mark++) {
      tried.scales.get(at).mark = mark;
      World alone = tried.copy();
      alone.row.clear();
      alone.row.add(at);
      if (place > 0) {
        // what leaked at scales ahead of it, each of which the egg has rolled past
        Egg egg = alone.eggs.get(e);
        egg.weight = egg.kind == 3 ? Math.max(1, egg.weight - place) : egg.weight;
      }
      boolean falls = alone.roll(e) == at;
      int more = NONE;
      if (at == s) {
        more = falls ? 0 : NONE;
      } else if (!falls) {
        if (!known) {
          behind = leastFrom(tried, e, s, place + 1);
          known = true;
        }
        more = behind;
      }
      if (more != NONE) {
        least = Math.min(least, more + Math.abs(mark - had));
      }
    }
    tried.scales.get(at).mark = had;
    return least == Integer.MAX_VALUE ? NONE : least;
  }

  int cracks(int x, int k, int what) {
    if (x < 0 || x > 10 || k < 0 || k > 6 || what < 0 || what > 1) {
      return BAD;
    }
    int whole = 0;
    for (int e : nest()) {
      whole += w.eggs.get(e).kind == 3 ? 0 : 1;
    }
    int upper = 0;
    int lower = 1;
    for (int e = 0; e < whole; e++) {
      lower *= 10;
    }
    for (int set = 0; set < 1 << whole; set++) {
      if (Integer.bitCount(set) <= k) {
        int ways = 1;
        for (int e = 0; e < whole; e++) {
          ways *= (set >> e & 1) == 1 ? x : 10 - x;
        }
        upper += ways;
      }
    }
    for (int prime : new int[] {2, 5}) {
      while (lower % prime == 0 && upper % prime == 0 && lower > 1) {
        lower /= prime;
        upper /= prime;
      }
    }
    return what == 0 ? upper : lower;
  }

  private List<Integer> sets(int n, int grams, long among) {
    List<Integer> sets = new ArrayList<>();
    for (int bits = 1; bits < 1 << w.eggs.size(); bits++) {
      if ((bits & among) == bits && Integer.bitCount(bits) == n && weight(bits) >= grams) {
        sets.add(bits);
      }
    }
    return sets;
  }

  private int weight(int bits) {
    int sum = 0;
    for (int e = 0; e < w.eggs.size(); e++) {
      sum += (bits >> e & 1) * w.eggs.get(e).weight;
    }
    return sum;
  }

  private long inTrays() {
    long bits = 0;
    for (int s = 0; s < w.scales.size(); s++) {
      bits += w.bits(s + 1);
    }
    return bits;
  }

  int box(int n, int grams, int what) {
    if (n < 1 || n > 6 || grams < 0 || grams > 600 || what < 0 || what > 1) {
      return BAD;
    }
    int best = NONE;
    for (int bits : sets(n, grams, inTrays())) {
      if (best == NONE || weight(bits) < weight(best)) {
        best = bits;
      }
    }
    return best == NONE || what == 0 ? best : weight(best) - grams;
  }

  int boxes(int n, int grams) {
    if (n < 1 || n > 6 || grams < 0 || grams > 600) {
      return BAD;
    }
    return mostOf(n, grams, inTrays());
  }

  private int mostOf(int n, int grams, long among) {
    int most = 0;
    for (int bits : sets(n, grams, among)) {
      most = Math.max(most, 1 + mostOf(n, grams, among & ~bits));
    }
    return most;
  }

  int tested(int g, int s) {
    if (g < 1 || g > 99 || s != NONE && noScale(s)) {
      return BAD;
    }
    if (tests.size() == 6) {
      return FULL;
    }
    tests.add(new int[] {g, s});
    return tests.size();
  }

  int forget() {
    int had = tests.size();
    tests.clear();
    return had;
  }

  private int fellFrom(int g, int[] way) {
    for (int s = 0; s < w.scales.size(); s++) {
      if (w.scales.get(s).told + (way[0] == s ? way[1] : 0) <= g) {
        return s;
      }
    }
    return NONE;
  }

  private List<int[]> ways() {
    List<int[]> ways = new ArrayList<>();
    ways.add(new int[] {-1, 0});
    for (int s = 0; s < w.scales.size(); s++) {
      for (int d = 1; d <= 9; d++) {
        ways.add(new int[] {s, d});
        ways.add(new int[] {s, -d});
      }
    }
    ways.removeIf(way -> tests.stream().anyMatch(t -> fellFrom(t[0], way) != t[1]));
    return ways;
  }

  int can(int what) {
    if (what < 0 || what > 2) {
      return BAD;
    }
    int scales = 0;
    int none = 0;
    for (int[] way : ways()) {
      if (way[0] >= 0) {
        scales |= 1 << way[0];
      } else {
        none = 1;
      }
    }
    return what == 0 ? ways().size() : what == 1 ? scales : none;
  }

  int next() {
    List<int[]> ways = ways();
    if (ways.size() <= 1) {
      return NONE;
    }
    int best = NONE;
    int least = Integer.MAX_VALUE;
    for (int g = 1; g <= 99; g++) {
      int[] parts = new int[20];
      int greatest = 0;
      for (int[] way : ways) {
        greatest = Math.max(greatest, ++parts[fellFrom(g, way) + 9]);
      }
      if (greatest < least) {
        least = greatest;
        best = g;
      }
    }
    return best;
  }

  int rate(int kind, int e) {
    if (kind < 0 || kind > 5 || noEgg(e)) {
      return -1000000;
    }
    trace += new int[] {1, 10, 100, 1000, 10000, 100000}[kind];
    Egg egg = w.eggs.get(e);
    if (kind == 0) {
      return egg.weight;
    }
    int up = rate(new int[] {-1, 0, 0, 1, 2, 0}[kind], e);
    return new int[] {0, up + Long.bitCount(w.bits(egg.where)), up - w.scales.size(), 2 * up, up + e, up + w.fell()}[kind];
  }

  int keep(int image) {
    if (image < 0 || image > 1) {
      return BAD;
    }
    images[image] = w.copy();
    return nest().size();
  }

  int back(int image) {
    if (image < 0 || image > 1) {
      return BAD;
    }
    if (images[image] == null) {
      return STATE;
    }
    w = images[image].copy();
    past.clear();
    return nest().size();
  }

  int count(int what) {
    if (what < 0 || what > 3) {
      return BAD;
    }
    return new int[] {w.scales.size(), w.eggs.size(), tests.size(), text.length()}[what];
  }

  long trace() {
    return trace;
  }
}
