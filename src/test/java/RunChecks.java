import java.lang.reflect.Method;
import java.util.ArrayList;
import java.util.Arrays;
import java.util.HashMap;
import java.util.HashSet;
import java.util.List;
import java.util.Map;
import java.util.Random;
import java.util.Set;
import java.util.TreeSet;

/**
 * Whole runs of calls by lot (always the same), as many as an object is used for: each answer is set beside that of a
 * plain model which is written from the document alone, says everything the long way and shares nothing with the class.
 */
public final class RunChecks {
  private static final int CALLS_MOST = 512;
  private static final int RUNS = 120;
  private static final int NONE = -1, BAD = -2, STATE = -3, FULL = -4;
  private static final int MISSING = -11, OUTSIDE = -12, UNLIKE = -13, NEGATIVE = -14;
  private static final List<String> NAMES = List.of("WordMonoids", "machine", "drop", "step", "ends", "start", "of",
      "takes", "quotient", "turn", "size", "word", "element", "times", "power", "below", "green", "holds", "wrong",
      "level", "separates", "least", "formula", "why", "says", "many", "agree", "drawn", "chance", "tells", "film",
      "feed", "image", "back", "load", "count", "sheet", "put", "copy");

  // ---- words: texts of a, b, c

  private static final List<List<String>> WORDS = wordsByLength();

  private static List<List<String>> wordsByLength() {
    List<List<String>> all = new ArrayList<>();
    all.add(List.of(""));
    for (int n = 1; n <= 9; n++) {
      List<String> longer = new ArrayList<>();
      for (String w : all.get(n - 1)) for (String l : List.of("a", "b", "c")) longer.add(w + l);
      all.add(longer);
    }
    return all;
  }

  /** The word that a number tells; null: it is none. */
  private static String wordOf(int number) {
    if (number == 0) return "";
    String digits = String.valueOf(number);
    if (!digits.matches("[123]{1,9}")) return null;
    return digits.replace('1', 'a').replace('2', 'b').replace('3', 'c');
  }

  private static long told(String word) {
    return word.isEmpty() ? 0 : Long.parseLong(word.replace('a', '1').replace('b', '2').replace('c', '3'));
  }

  private static String drawnWord(int seed, int n) {
    StringBuilder s = new StringBuilder();
    int z = seed;
    for (int k = 0; k < n; k++) {
      z = z * 1103515245 + 12345;
      s.append((char) ('a' + (z >>> 9) % 3));
    }
    return s.toString();
  }

  private interface Taker {
    boolean takes(String word);
  }

  private static final class Plain implements Taker {
    final int[][] leads;
    int start = 0;
    int ends = 0;

    Plain(int points) {
      leads = new int[points][3];
      for (int p = 0; p < points; p++) Arrays.fill(leads[p], p);
    }

    Plain copied() {
      Plain m = new Plain(leads.length);
      for (int p = 0; p < leads.length; p++) m.leads[p] = leads[p].clone();
      m.start = start;
      m.ends = ends;
      return m;
    }

    int from(int point, String word) {
      int p = point;
      for (int k = 0; k < word.length(); k++) p = leads[p][word.charAt(k) - 'a'];
      return p;
    }

    boolean isEnd(int p) {
      return (ends & 1 << p) != 0;
    }

    public boolean takes(String word) {
      return isEnd(from(start, word));
    }

    String key() {
      return Arrays.deepToString(leads) + start + "," + ends;
    }
  }

  // ---- the monoid, by tables

  private static final class Monoid {
    final Plain least;
    final List<String> words = new ArrayList<>();
    final Map<List<Integer>, Integer> numbers = new HashMap<>();
    final int[][] times;
    final boolean[] tie;

    Monoid(Plain m) {
      least = leastOf(m);
      // words in their order, as long as a length brings something new
      for (List<String> front = List.of(""); !front.isEmpty(); ) {
        List<String> fresh = new ArrayList<>();
        for (String w : front) {
          if (numbers.putIfAbsent(does(w), words.size()) == null) {
            words.add(w);
            fresh.add(w);
          }
        }
        front = new ArrayList<>();
        for (String w : fresh) for (String l : List.of("a", "b", "c")) front.add(w + l);
      }
      times = new int[words.size()][words.size()];
      for (int i = 0; i < times.length; i++) {
        for (int j = 0; j < times.length; j++) times[i][j] = number(words.get(i) + words.get(j));
      }
      tie = new boolean[words.size()];
      for (int i = 0; i < times.length; i++) {
        for (String l : List.of("a", "b", "c")) {
          int done = number(words.get(i) + l);
          if (times[done][done] == done) tie[done] = true;
        }
      }
    }

    List<Integer> does(String word) {
      List<Integer> all = new ArrayList<>();
      for (int p = 0; p < least.leads.length; p++) all.add(least.from(p, word));
      return all;
    }

    int number(String word) {
      return numbers.get(does(word));
    }

    int x(int... factors) {
      int product = 0;
      for (int f : factors) product = times[product][f];
      return product;
    }

    int omega(int i) {
      int p = i;
      while (x(p, p) != p) p = x(p, i);
      return p;
    }

    int index(int i) {
      List<Integer> powers = new ArrayList<>();
      for (int p = i; powers.size() < 600; p = x(p, i)) powers.add(p);
      for (int n = 0; n < 300; n++) if (powers.subList(n + 1, 600).contains(powers.get(n))) return n + 1;
      throw new IllegalStateException();
    }

    int period(int i) {
      List<Integer> powers = new ArrayList<>();
      for (int p = i; powers.size() < 600; p = x(p, i)) powers.add(p);
      int n = index(i) - 1;
      return powers.subList(n + 1, 600).indexOf(powers.get(n)) + 1;
    }

    boolean comesFrom(int i, int j, int side) {
      for (int s = 0; s < times.length; s++) {
        if (side == 0 && x(j, s) == i || side == 1 && x(s, j) == i) return true;
        for (int t = 0; side == 2 && t < times.length; t++) if (times[times[s][j]][t] == i) return true;
      }
      return false;
    }

    int classes(int side) {
      int n = times.length;
      boolean[][] from = new boolean[n][n];
      for (int j = 0; j < n; j++) {
        for (int s = 0; s < n; s++) {
          if (side == 0) from[times[j][s]][j] = true;
          if (side == 1) from[times[s][j]][j] = true;
          for (int t = 0; side == 2 && t < n; t++) from[times[times[s][j]][t]][j] = true;
        }
      }
      int classes = 0;
      for (int j = 0; j < n; j++) {
        boolean first = true;
        for (int i = 0; i < j; i++) first &= !(from[i][j] && from[j][i]);
        if (first) classes++;
      }
      return classes;
    }

    int green(int what) {
      int idempotents = 0, greatest = 0, taken = 0, zero = NONE;
      for (int i = 0; i < times.length; i++) {
        if (x(i, i) == i) idempotents++;
        if (what == 4) greatest = Math.max(greatest, period(i));
        if (least.takes(words.get(i))) taken++;
        boolean isZero = true;
        for (int j = 0; j < times.length; j++) isZero &= x(i, j) == i && x(j, i) == i;
        if (isZero) zero = i;
      }
      return what == 0 ? idempotents : what < 4 ? classes(what - 1) : what == 4 ? greatest : what == 5 ? taken : zero;
    }

    boolean lawful(int law, int i, int j) {
      int e = omega(x(i, j));
      int f = omega(x(j, i));
      switch (law) {
        case 0: return x(omega(i), i) == omega(i);
        case 1: return i == 0 || x(i, i) != i;
        case 2: return x(i, j) == x(j, i);
        case 3: return x(i, i) == i;
        case 4: return x(e, i) == e;
        case 5: return x(j, e) == e;
        case 6: return lawful(4, i, j) && lawful(5, i, j);
        case 7: {
          if (!tie[i]) return true;
          int x = x(i, j, i);
          boolean so = x(x, x) == x;
          for (int s = 0; so && s < times.length; s++) so = x(x, i, s, i) == x(i, s, i, x);
          return so;
        }
        case 8: return !tie[i] || x(j, i) == i;
        case 9: return !tie[i] || x(i, j) == i;
        case 10: return !tie[i] || x(i, j, i) == i;
        default: return x(e, f, e) == e;
      }
    }

    /** The first i, then j, by which a law is wrong; null: it holds. */
    int[] wrong(int law) {
      boolean alone = law == 0 || law == 1 || law == 3;
      for (int i = 0; i < times.length; i++) {
        for (int j = 0; j < times.length; j++) {
          if (!lawful(law, i, j)) return new int[] {i, alone ? NONE : j};
        }
      }
      return null;
    }
  }

  private static boolean alike(Plain m, int p, int q) {
    for (int n = 0; n <= 4; n++) {
      for (String w : WORDS.get(n)) if (m.isEnd(m.from(p, w)) != m.isEnd(m.from(q, w))) return false;
    }
    return true;
  }

  private static int placeOfAlike(Plain m, List<Integer> found, int point) {
    for (int k = 0; k < found.size(); k++) if (alike(m, found.get(k), point)) return k;
    return NONE;
  }

  private static Plain leastOf(Plain m) {
    List<Integer> found = new ArrayList<>(List.of(m.start));
    for (int k = 0; k < found.size(); k++) {
      for (int l = 0; l < 3; l++) {
        int to = m.leads[found.get(k)][l];
        if (placeOfAlike(m, found, to) == NONE) found.add(to);
      }
    }
    Plain least = new Plain(found.size());
    for (int k = 0; k < found.size(); k++) {
      for (int l = 0; l < 3; l++) least.leads[k][l] = placeOfAlike(m, found, m.leads[found.get(k)][l]);
      if (m.isEnd(found.get(k))) least.ends |= 1 << k;
    }
    return least;
  }

  // ---- what is known

  private static String known(String w, int kind, int level) {
    TreeSet<String> all = new TreeSet<>();
    for (String l : List.of("a", "b", "c")) {
      if (level > 0 && w.contains(l)) all.add(l);
      for (String k : List.of("a", "b", "c")) {
        if (level == 2 && kind == 0 && w.contains(l) && w.indexOf(l) < w.lastIndexOf(k)) all.add(l + k);
        if (level == 2 && kind == 1 && w.contains(l + k)) all.add(l + k);
      }
      if (level == 2 && kind == 1 && w.startsWith(l)) all.add("^" + l);
      if (level == 2 && kind == 1 && w.endsWith(l)) all.add("$" + l);
    }
    return all.toString();
  }

  /** What is known of words that are not taken (0), that are taken (1): a word for each that is known, and each point. */
  private static List<Set<String>> knownOf(Plain m, int kind, int level) {
    Set<String> seen = new HashSet<>();
    List<Set<String>> byTaken = List.of(new HashSet<>(), new HashSet<>());
    List<String> queue = new ArrayList<>(List.of(""));
    for (int k = 0; k < queue.size(); k++) {
      String w = queue.get(k);
      String is = known(w, kind, level);
      if (seen.add(is + m.from(m.start, w))) {
        byTaken.get(m.takes(w) ? 1 : 0).add(is);
        for (String l : List.of("a", "b", "c")) queue.add(w + l);
      }
    }
    return byTaken;
  }

  private static int levelOf(Plain m, int kind) {
    for (int level = 0; level <= 2; level++) {
      List<Set<String>> known = knownOf(m, kind, level);
      known.get(0).retainAll(known.get(1));
      if (known.get(0).isEmpty()) return level;
    }
    return NONE;
  }

  private static int separation(Plain one, Plain two, int kind) {
    for (int level = 0; level <= 2; level++) {
      Set<String> both = knownOf(one, kind, level).get(1);
      both.retainAll(knownOf(two, kind, level).get(1));
      if (both.isEmpty()) return level;
    }
    return NONE;
  }

  private static long leastOfTwo(Plain one, Plain two, int what) {
    Set<String> seen = new HashSet<>();
    List<String> queue = new ArrayList<>(List.of(""));
    for (int k = 0; k < queue.size(); k++) {
      String w = queue.get(k);
      if (!seen.add(one.from(one.start, w) + " " + two.from(two.start, w))) continue;
      boolean a = one.takes(w);
      boolean b = two.takes(w);
      if (what == 0 && a && b || what == 1 && a != b || what == 2 && a && !b) return told(w);
      for (String l : List.of("a", "b", "c")) queue.add(w + l);
    }
    return NONE;
  }

  // ---- formulas, by cutting texts

  private static final class Text implements Taker {
    final String text;

    Text(String text) {
      this.text = text;
    }

    public boolean takes(String word) {
      return says(text, word);
    }
  }

  private static final Map<String, Boolean> EITHERS = new HashMap<>();

  private static boolean isEither(String s) {
    Boolean was = EITHERS.get(s);
    if (was != null) return was;
    boolean is = isOne(s);
    for (int k = 1; k < s.length() - 1 && !is; k++) {
      if (s.charAt(k) == '|' || s.charAt(k) == '&') is = isOne(s.substring(0, k)) && isEither(s.substring(k + 1));
    }
    EITHERS.put(s, is);
    return is;
  }

  private static boolean isOne(String s) {
    if (s.startsWith("!")) return isOne(s.substring(1));
    if (s.startsWith("(")) return s.length() > 2 && s.endsWith(")") && isEither(s.substring(1, s.length() - 1));
    return s.matches("e|%[2345]|[\\^$#~][abc]{1,3}");
  }

  /** Whether some formula begins so, whatever is open. */
  private static boolean goesOn(String s) {
    for (String next : List.of("", "e", "a", "2")) {
      String tried = s + next;
      for (int k = 0; k <= 8; k++) {
        if (isEither(tried)) return true;
        tried += ")";
      }
    }
    return false;
  }

  /** The places of all that is open ahead of a place: what has been begun there and is not whole yet. */
  private static List<Integer> openAt(String s, int place) {
    List<Integer> open = new ArrayList<>();
    for (int k = 0; k < place; k++) {
      boolean whole = s.charAt(k) != '(' && s.charAt(k) != '!';
      for (int to = k + 1; to <= place && !whole; to++) whole = isOne(s.substring(k, to));
      if (!whole) open.add(k);
    }
    return open;
  }

  /** NONE: it is a formula. */
  private static int faultOf(String s) {
    for (int k = 0; k < s.length(); k++) {
      boolean opens = s.charAt(k) == '(' || s.charAt(k) == '!';
      if (!goesOn(s.substring(0, k + 1)) || opens && openAt(s, k).size() == 6) return k;
    }
    return isEither(s) ? NONE : s.length();
  }

  private static int outermost(String f, char sign) {
    int open = 0;
    for (int k = 0; k < f.length(); k++) {
      if (f.charAt(k) == '(') open++;
      if (f.charAt(k) == ')') open--;
      if (open == 0 && f.charAt(k) == sign) return k;
    }
    return NONE;
  }

  private static boolean says(String f, String w) {
    int either = outermost(f, '|');
    if (either >= 0) return says(f.substring(0, either), w) || says(f.substring(either + 1), w);
    int both = outermost(f, '&');
    if (both >= 0) return says(f.substring(0, both), w) && says(f.substring(both + 1), w);
    String rest = f.substring(1);
    switch (f.charAt(0)) {
      case '!': return !says(rest, w);
      case '(': return says(rest.substring(0, rest.length() - 1), w);
      case 'e': return w.isEmpty();
      case '%': return w.length() % Integer.parseInt(rest) == 0;
      case '^': return w.startsWith(rest);
      case '$': return w.endsWith(rest);
      case '#': return w.contains(rest);
      default: {
        int at = 0;
        for (int k = 0; k < w.length() && at < rest.length(); k++) if (w.charAt(k) == rest.charAt(at)) at++;
        return at == rest.length();
      }
    }
  }

  // ---- the model

  private static final class Model {
    final List<Plain> machines = new ArrayList<>();
    List<Plain> image = null;
    final List<Text> formulas = new ArrayList<>();
    String tape = "";
    List<Integer> causes = List.of();
    final int[][] rows = new int[4][];
    final boolean[] isShorts = new boolean[4];
    final Map<String, Monoid> monoids = new HashMap<>();

    Plain m(int number) {
      return number >= 0 && number < machines.size() ? machines.get(number) : null;
    }

    Text f(int number) {
      return number >= 0 && number < formulas.size() ? formulas.get(number) : null;
    }

    Taker taker(int sort, int number) {
      return sort == 0 ? m(number) : sort == 1 ? f(number) : null;
    }

    Monoid monoid(Plain m) {
      return monoids.computeIfAbsent(m.key(), k -> new Monoid(m));
    }

    static boolean in(int number, int low, int high) {
      return low <= number && number <= high;
    }

    long answer(String name, int... a) {
      switch (NAMES.indexOf(name)) {
        case 1, 2, 3, 4, 5, 6, 7, 8, 9: return machineCall(name, a);
        case 10, 11, 12, 13, 14, 15, 16, 17, 18: return m(a[0]) == null ? BAD : monoidCall(name, monoid(m(a[0])), a);
        case 19: return m(a[0]) == null || !in(a[1], 0, 1) ? BAD : levelOf(m(a[0]), a[1]);
        case 20: return m(a[0]) == null || m(a[1]) == null || !in(a[2], 0, 1) ? BAD : separation(m(a[0]), m(a[1]), a[2]);
        case 21: return m(a[0]) == null || m(a[1]) == null || !in(a[2], 0, 2) ? BAD : leastOfTwo(m(a[0]), m(a[1]), a[2]);
        case 22, 23, 24, 25, 26: return formulaCall(name, a);
        case 27, 28, 29, 30, 31: return lotCall(name, a);
        case 32, 33, 35: return imageCall(name, a);
        default: return sheetCall(name, a);
      }
    }

    long machineCall(String name, int[] a) {
      if (name.equals("machine")) {
        if (!in(a[0], 1, 4)) return BAD;
        if (machines.size() == 3) return FULL;
        machines.add(new Plain(a[0]));
        return machines.size() - 1;
      }
      if (name.equals("drop")) {
        if (machines.isEmpty()) return STATE;
        machines.remove(machines.size() - 1);
        return machines.size();
      }
      Plain m = m(a[0]);
      if (m == null) return BAD;
      int points = m.leads.length;
      int was;
      switch (name) {
        case "step":
          if (!in(a[1], 0, points - 1) || !in(a[2], 0, 2) || !in(a[3], 0, points - 1)) return BAD;
          was = m.leads[a[1]][a[2]];
          m.leads[a[1]][a[2]] = a[3];
          return was;
        case "ends":
          if (!in(a[1], 0, (1 << points) - 1)) return BAD;
          was = m.ends;
          m.ends = a[1];
          return was;
        case "start":
          if (!in(a[1], 0, points - 1)) return BAD;
          was = m.start;
          m.start = a[1];
          return was;
        case "of":
          if (in(a[1], 10, 9 + 3 * points)) return m.leads[(a[1] - 10) / 3][(a[1] - 10) % 3];
          if (!in(a[1], 0, 4)) return BAD;
          Plain least = leastOf(m);
          return new int[] {points, m.start, m.ends, least.leads.length, least.ends}[a[1]];
        case "takes":
          return wordOf(a[1]) == null ? BAD : m.takes(wordOf(a[1])) ? 1 : 0;
        case "turn":
          m.ends = (1 << points) - 1 - m.ends;
          return m.ends;
        default:
          if (!in(a[1], 0, 2) || !in(a[2], 0, 1)) return BAD;
          if (a[2] == 0) return m.start = m.leads[m.start][a[1]];
          int ends = 0;
          for (int p = 0; p < points; p++) if (m.isEnd(m.leads[p][a[1]])) ends += 1 << p;
          return m.ends = ends;
      }
    }

    long monoidCall(String name, Monoid g, int[] a) {
      int last = g.words.size() - 1;
      switch (name) {
        case "size": return g.words.size();
        case "word":
          if (!in(a[1], 0, last) || a[2] < NONE) return BAD;
          String w = g.words.get(a[1]);
          return a[2] == NONE ? w.length() : a[2] < w.length() ? w.charAt(a[2]) - 'a' : NONE;
        case "element": return wordOf(a[1]) == null ? BAD : g.number(wordOf(a[1]));
        case "times": return !in(a[1], 0, last) || !in(a[2], 0, last) ? BAD : g.number(g.words.get(a[1]) + g.words.get(a[2]));
        case "power":
          if (!in(a[1], 0, last) || !in(a[2], 0, 2)) return BAD;
          return a[2] == 0 ? g.index(a[1]) : a[2] == 1 ? g.period(a[1]) : g.omega(a[1]);
        case "below":
          if (!in(a[1], 0, last) || !in(a[2], 0, last) || !in(a[3], 0, 2)) return BAD;
          return g.comesFrom(a[1], a[2], a[3]) ? 1 : 0;
        case "green": return in(a[1], 0, 6) ? g.green(a[1]) : BAD;
        case "holds":
          int set = 0;
          for (int law = 0; law < 12; law++) if (g.wrong(law) == null) set += 1 << law;
          return set;
        default:
          if (!in(a[1], 0, 11) || !in(a[2], 0, 1)) return BAD;
          return g.wrong(a[1]) == null ? NONE : g.wrong(a[1])[a[2]];
      }
    }

    long formulaCall(String name, int[] a) {
      switch (name) {
        case "formula":
          if (formulas.size() == 4) return FULL;
          String text = tape;
          tape = "";
          int fault = faultOf(text);
          causes = new ArrayList<>();
          if (fault == NONE) {
            formulas.add(new Text(text));
            return formulas.size() - 1;
          }
          causes.add(0);
          causes.addAll(openAt(text, fault));
          causes.add(fault);
          return -100 - fault;
        case "why":
          if (a[0] < NONE) return BAD;
          return a[0] == NONE ? causes.size() : a[0] < causes.size() ? causes.get(a[0]) : NONE;
        case "says": return f(a[0]) == null || wordOf(a[1]) == null ? BAD : f(a[0]).takes(wordOf(a[1])) ? 1 : 0;
        case "many":
          if (taker(a[0], a[1]) == null || !in(a[2], 0, 9)) return BAD;
          int many = 0;
          for (String w : WORDS.get(a[2])) if (taker(a[0], a[1]).takes(w)) many++;
          return many;
        default:
          if (m(a[0]) == null || f(a[1]) == null || !in(a[2], 0, 5)) return BAD;
          for (int n = 0; n <= a[2]; n++) {
            for (String w : WORDS.get(n)) if (m(a[0]).takes(w) != f(a[1]).takes(w)) return told(w);
          }
          return NONE;
      }
    }

    long lotCall(String name, int[] a) {
      switch (name) {
        case "drawn": return m(a[0]) == null || !in(a[2], 0, 99) ? BAD : monoid(m(a[0])).number(drawnWord(a[1], a[2]));
        case "chance":
          if (m(a[0]) == null || !in(a[2], 1, 20) || !in(a[3], 0, 99) || !in(a[4], 0, 1)) return BAD;
          int taken = 0;
          for (int k = 0; k < a[2]; k++) if (m(a[0]).takes(drawnWord(a[1] + k, a[3]))) taken++;
          int below = 1;
          while (taken * below % a[2] != 0) below++;
          return a[4] == 0 ? taken * below / a[2] : below;
        case "tells":
          if (!in(a[0], 0, 3) || taker(a[1], a[2]) == null) return BAD;
          if (rows[a[0]] == null) return MISSING;
          for (int k = 0; k + 1 < rows[a[0]].length; k += 2) {
            String w = wordOf(rows[a[0]][k]);
            if (w == null || rows[a[0]][k + 1] != (taker(a[1], a[2]).takes(w) ? 1 : 0)) return k / 2;
          }
          return NONE;
        case "film":
          if (!in(a[0], 0, 3) || taker(a[1], a[2]) == null || !in(a[3], 0, 40)) return BAD;
          List<String> taken5 = new ArrayList<>();
          for (int n = 0; n <= 5; n++) for (String w : WORDS.get(n)) if (taker(a[1], a[2]).takes(w)) taken5.add(w);
          rows[a[0]] = new int[a[3]];
          isShorts[a[0]] = false;
          int came = Math.min(a[3], taken5.size());
          for (int k = 0; k < came; k++) rows[a[0]][k] = (int) told(taken5.get(k));
          return came;
        default:
          if (!in(a[0], 1, 5)) return BAD;
          for (int k = 1; k <= 5; k++) if (!in(a[k], 0, 255)) return BAD;
          if (tape.length() + a[0] > 60) return FULL;
          for (int k = 1; k <= a[0]; k++) tape += (char) a[k];
          return tape.length();
      }
    }

    long imageCall(String name, int[] a) {
      if (name.equals("image")) {
        image = new ArrayList<>();
        for (Plain m : machines) image.add(m.copied());
        return image.size();
      }
      if (name.equals("back")) {
        if (image == null) return STATE;
        machines.clear();
        for (Plain m : image) machines.add(m.copied());
        return machines.size();
      }
      int points = 0;
      for (Plain m : machines) points += m.leads.length;
      return in(a[0], 0, 3) ? new int[] {machines.size(), formulas.size(), tape.length(), points}[a[0]] : BAD;
    }

    long sheetCall(String name, int[] a) {
      if (!in(a[0], 0, 3)) return BAD;
      int[] row = rows[a[0]];
      switch (name) {
        case "sheet":
          if (!in(a[1], -1, 1)) return BAD;
          if (a[1] >= 0 && a[2] > 40) return BAD;
          if (a[1] >= 0 && a[2] < 0) return NEGATIVE;
          rows[a[0]] = a[1] < 0 ? null : new int[a[2]];
          isShorts[a[0]] = a[1] == 0;
          return 1;
        case "put":
          if (row == null) return MISSING;
          if (!in(a[1], 0, row.length - 1)) return OUTSIDE;
          row[a[1]] = isShorts[a[0]] ? (short) a[2] : a[2];
          return 1;
        case "copy":
          if (!in(a[2], 0, 3)) return BAD;
          int[] other = rows[a[2]];
          if (row == null || other == null) return MISSING;
          if (isShorts[a[0]] != isShorts[a[2]]) return UNLIKE;
          if (a[4] < 0 || a[1] < 0 || a[3] < 0 || (long) a[1] + a[4] > row.length || (long) a[3] + a[4] > other.length) return OUTSIDE;
          int[] were = row.clone();
          for (int k = 0; k < a[4]; k++) other[a[3] + k] = were[a[1] + k];
          return a[4];
        default:
          Plain m = m(a[3]);
          if (!in(a[1], 0, 1) || m == null) return BAD;
          if (row == null) return MISSING;
          if (isShorts[a[0]] != (a[1] == 0)) return UNLIKE;
          int came = 0;
          for (int k = 0; k < 3 * m.leads.length; k++) {
            long at = (long) a[2] + k;
            if (at < 0 || at >= row.length) return OUTSIDE;
            if (in(row[(int) at], 0, m.leads.length - 1)) {
              m.leads[k / 3][k % 3] = row[(int) at];
              came++;
            }
          }
          return came;
      }
    }
  }

  // ---- runs

  private static final class Run {
    final Random r;
    final Model model = new Model();
    final WordMonoids x = new WordMonoids();
    final List<String> calls = new ArrayList<>();
    boolean failed = false;

    Run(long seed) {
      r = new Random(seed);
    }

    int of(int... some) {
      return some[r.nextInt(some.length)];
    }

    /** Mostly 0 .. high, now and then one beside it or far from it. */
    int upTo(int high) {
      int way = r.nextInt(40);
      if (way == 0) return of(-1, high + 1, -2, high + 2);
      if (way == 1) return of(Integer.MIN_VALUE, Integer.MAX_VALUE, r.nextInt(), 65536 + r.nextInt(4));
      return r.nextInt(Math.max(0, Math.min(high, 1000)) + 1);
    }

    int machine() {
      return upTo(Math.max(0, model.machines.size() - 1));
    }

    int formula() {
      return upTo(Math.max(0, model.formulas.size() - 1));
    }

    int point(int machine) {
      Plain m = model.m(machine);
      return upTo(m == null ? 3 : m.leads.length - 1);
    }

    int element(int machine) {
      Plain m = model.m(machine);
      return upTo(m == null ? 3 : model.monoid(m).words.size() - 1);
    }

    int word() {
      if (r.nextInt(30) == 0) return of(4, 10, 1111111111, -1, 101, 123412, 1333333333, 222222220, r.nextInt());
      List<String> some = WORDS.get(r.nextInt(10));
      return (int) told(some.get(r.nextInt(some.size())));
    }

    int byteAt() {
      return r.nextInt(300) == 0 ? of(-1, 256, 32, 0, 255) : "!!((()))&&||e%%123456^$#~aabbcc".charAt(r.nextInt(31));
    }

    void go(String name, int... a) {
      if (calls.size() >= CALLS_MOST || failed) return;
      String call = name + Arrays.toString(a).replace('[', '(').replace(']', ')');
      long got = invoke(x, name, a);
      long want = model.answer(name, a);
      calls.add(call + " = " + want);
      if (got != want) {
        failed = true;
        for (String c : calls) System.out.println("  " + c);
        System.out.println("promise " + (NAMES.indexOf(name) + 1) + ": the last call answered " + got);
      }
    }

    void feedText(String text) {
      for (int k = 0; k < text.length(); k++) {
        int n = Math.min(1 + r.nextInt(5), text.length() - k);
        int[] a = {n, 0, 0, 0, 0, 0};
        for (int at = 0; at < 5; at++) a[at + 1] = at < n ? text.charAt(k + at) : r.nextInt(256);
        go("feed", a);
        k += n - 1;
      }
    }

    String anyFormula(int depth) {
      int way = r.nextInt(depth > 0 ? 8 : 3);
      if (way >= 6) return anyFormula(depth - 1) + "&" + anyFormula(depth - 1);
      if (way == 5) return anyFormula(depth - 1) + "|" + anyFormula(depth - 1);
      if (way == 4) return "(" + anyFormula(depth - 1) + ")";
      if (way == 3) return "!" + anyFormula(depth - 1);
      if (way == 0) return r.nextBoolean() ? "e" : "%" + (2 + r.nextInt(4));
      String letters = WORDS.get(1 + r.nextInt(3)).get(r.nextInt(3));
      return "" + "^$#~".charAt(r.nextInt(4)) + letters;
    }

    /** A formula, more often than not with a few bytes changed. */
    void readFormula() {
      StringBuilder text = new StringBuilder(anyFormula(r.nextInt(5)));
      if (r.nextInt(5) == 0) text.insert(0, "(!(!!((!".substring(r.nextInt(8)));
      for (int k = r.nextInt(3); k > 0 && text.length() > 0; k--) {
        int at = r.nextInt(text.length());
        if (r.nextBoolean()) text.setCharAt(at, (char) (byteAt() & 255));
        else if (r.nextBoolean()) text.insert(at, (char) (byteAt() & 255));
        else text.deleteCharAt(at);
      }
      if (text.length() > 60) text.setLength(60);
      if (!model.tape.isEmpty()) go("formula");
      feedText(text.toString());
      go("formula");
      for (int i = -1; i < 9; i++) if (r.nextBoolean()) go("why", i);
    }

    /** One of which something is known: of first or last letters, of letters behind or beside one another. */
    void newMachine() {
      int points = 1 + upTo(3);
      go("machine", points);
      if (!Model.in(points, 1, 4)) return;
      int m = model.machines.size() - 1;
      int way = r.nextInt(5);
      for (int at = 0; at < 3 * points && way > 0; at++) {
        int p = at / 3;
        int to = r.nextInt(points);
        if (way == 1) to = Math.max(p, to);
        if (way == 2 && p > 0) to = r.nextInt(8) == 0 ? to : model.m(m).leads[0][at % 3];
        if (way == 3 && p > 0) to = r.nextInt(8) == 0 ? to : p;
        if (way == 4 && p == points - 1) to = p;
        go("step", m, p, at % 3, to);
      }
      go("ends", m, r.nextInt(1 << points));
      go("level", m, r.nextInt(2));
      go("separates", m, machine(), r.nextInt(2));
    }

    void changeMachine() {
      int m = machine();
      for (int k = 1 + r.nextInt(6); k > 0; k--) {
        switch (r.nextInt(9)) {
          case 0: go("start", m, point(m)); break;
          case 1: go("ends", m, upTo(model.m(m) == null ? 15 : (1 << model.m(m).leads.length) - 1)); break;
          case 2: go("quotient", m, upTo(2), upTo(1)); break;
          case 3: go("turn", m); break;
          default: go("step", m, point(m), upTo(2), point(m)); break;
        }
      }
    }

    void askMachine() {
      int m = machine();
      go("size", m);
      for (int k = r.nextInt(5); k > 0; k--) {
        switch (r.nextInt(12)) {
          case 0: go("of", m, upTo(22)); break;
          case 1: go("takes", m, word()); break;
          case 2: go("word", m, element(m), upTo(11) - 1); break;
          case 3: go("element", m, word()); break;
          case 4: go("times", m, element(m), element(m)); break;
          case 5: go("power", m, element(m), upTo(2)); break;
          case 6: go("below", m, element(m), element(m), upTo(2)); break;
          case 7: go("green", m, upTo(6)); break;
          case 8: go("wrong", m, upTo(11), upTo(1)); break;
          case 9: go("holds", m); break;
          case 10: go("drawn", m, r.nextInt(), upTo(99)); break;
          default: go("chance", m, of(0, 1, -1, Integer.MAX_VALUE, r.nextInt()), 1 + upTo(19), upTo(99), upTo(1)); break;
        }
      }
    }

    void askKnown() {
      if (r.nextInt(4) > 0) go("least", machine(), machine(), upTo(2));
      else if (r.nextBoolean()) go("level", machine(), upTo(1));
      else go("separates", machine(), machine(), upTo(1));
    }

    void askFormula() {
      go("says", formula(), word());
      int sort = upTo(1);
      if (r.nextInt(6) == 0) go("many", sort, sort == 1 ? formula() : machine(), upTo(r.nextInt(12) == 0 ? 9 : 6));
      if (r.nextInt(3) == 0) go("agree", machine(), formula(), upTo(5));
    }

    /** Words and truths that mostly fit, written to a sheet or filmed and copied, then asked. */
    void tellSheet() {
      int sort = upTo(1);
      int number = sort == 1 ? formula() : machine();
      Taker taker = model.taker(sort, number);
      int sheet = upTo(3);
      if (r.nextBoolean()) go("film", sheet, sort, number, upTo(40));
      int twos = r.nextInt(4);
      go("sheet", sheet ^ 1, r.nextInt(3) > 0 ? 1 : upTo(1), 2 * twos + r.nextInt(2));
      for (int k = 0; k < twos; k++) {
        int word = word();
        if (r.nextBoolean()) go("copy", sheet, upTo(39), sheet ^ 1, 2 * k, 1);
        else go("put", sheet ^ 1, 2 * k, word);
        int[] row = Model.in(sheet ^ 1, 0, 3) ? model.rows[sheet ^ 1] : null;
        String stands = row != null && 2 * k < row.length ? wordOf(row[2 * k]) : null;
        boolean is = stands != null && taker != null && taker.takes(stands);
        go("put", sheet ^ 1, 2 * k + 1, r.nextInt(9) == 0 ? r.nextInt(5) - 1 : is ? 1 : 0);
      }
      go("tells", sheet ^ 1, sort, number);
    }

    void loadSheet() {
      int sheet = upTo(3);
      int sort = upTo(1);
      int size = r.nextInt(4) == 0 ? upTo(40) : 12 + r.nextInt(8);
      go("sheet", sheet, sort, size);
      for (int k = 0; k < 13; k++) {
        if (r.nextInt(3) > 0) go("put", sheet, k, r.nextInt(12) == 0 ? of(65537, -65534, 4, -1, 7, Integer.MAX_VALUE) : r.nextInt(4));
      }
      if (r.nextInt(3) == 0) go("copy", sheet, r.nextInt(6), upTo(3), r.nextInt(6), r.nextInt(10));
      if (r.nextInt(3) == 0) go("copy", sheet, r.nextInt(6), sheet, r.nextInt(6), r.nextInt(10));
      int m = machine();
      go("load", sheet, r.nextInt(9) == 0 ? upTo(1) : sort, r.nextInt(4) == 0 ? upTo(size) : r.nextInt(3), m);
      for (int k = 0; k < 12; k++) if (r.nextInt(3) == 0) go("of", m, 10 + k);
    }

    void fillTape() {
      for (int k = 0; k < 20 && model.tape.length() < 60; k++) go("feed", 1 + upTo(4), byteAt(), byteAt(), byteAt(), byteAt(), byteAt());
      go("feed", 1 + upTo(4), byteAt(), byteAt(), byteAt(), byteAt(), byteAt());
      go("count", 2);
      if (r.nextBoolean()) go("formula");
    }

    void hostCall() {
      switch (r.nextInt(10)) {
        case 0: go("image"); break;
        case 1: go("back"); break;
        case 2: go("drop"); break;
        case 3: go("sheet", upTo(3), upTo(2) - 1, upTo(40)); break;
        case 4: go("put", upTo(3), upTo(39), r.nextInt()); break;
        case 5: go("copy", upTo(3), upTo(20), upTo(3), upTo(20), upTo(20)); break;
        case 6: go("feed", 1 + upTo(4), byteAt(), byteAt(), byteAt(), byteAt(), byteAt()); break;
        case 7: go("formula"); break;
        case 8: if (r.nextInt(4) == 0) fillTape(); break;
        default: go("count", upTo(3)); break;
      }
    }

    boolean runs() {
      if (r.nextInt(3) == 0) go("image");
      for (int k = 0; k < CALLS_MOST && calls.size() < CALLS_MOST && !failed; k++) {
        if (model.machines.isEmpty() && r.nextInt(3) > 0 || r.nextInt(9) == 0) newMachine();
        if (model.machines.size() == 3 && r.nextInt(4) == 0) go("drop");
        switch (r.nextInt(9)) {
          case 0: case 1: changeMachine(); break;
          case 2: case 3: askMachine(); break;
          case 4: askKnown(); break;
          case 5: if (r.nextInt(3) == 0) readFormula(); else askFormula(); break;
          case 6: tellSheet(); break;
          case 7: loadSheet(); break;
          default: hostCall(); break;
        }
      }
      return !failed;
    }
  }

  private static final Map<String, Method> METHODS = new HashMap<>();

  private static long invoke(WordMonoids x, String name, int[] a) {
    try {
      Object[] given = new Object[a.length];
      for (int k = 0; k < a.length; k++) given[k] = a[k];
      return ((Number) METHODS.get(name).invoke(x, given)).longValue();
    } catch (ReflectiveOperationException e) {
      System.out.println(name + Arrays.toString(a) + " threw " + e.getCause());
      return Long.MIN_VALUE;
    }
  }

  public static void main(String[] args) {
    for (Method m : WordMonoids.class.getMethods()) METHODS.put(m.getName(), m);
    long from = args.length > 0 ? Long.parseLong(args[0]) : 0;
    int runs = args.length > 1 ? Integer.parseInt(args[1]) : RUNS;
    int failures = 0;
    Map<String, Integer> made = new HashMap<>();
    for (int k = 0; k < runs && failures < 3; k++) {
      Run run = new Run(20261118 + from + k);
      if (!run.runs()) failures++;
      for (String c : run.calls) made.merge(c.substring(0, c.indexOf('(')), 1, Integer::sum);
      EITHERS.clear();
    }
    for (String name : NAMES.subList(1, NAMES.size())) {
      if (!made.containsKey(name)) {
        failures++;
        System.out.println("no run called " + name);
      }
    }
    if (args.length > 2) System.out.println(made);
    System.out.println(failures == 0 ? "all answers of " + runs + " runs are as the model's" : failures + " runs went wrong");
    if (failures != 0) {
      System.exit(1);
    }
  }
}
