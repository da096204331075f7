import java.util.ArrayDeque;
import java.util.ArrayList;
import java.util.Comparator;
import java.util.HashMap;
import java.util.HashSet;
import java.util.List;
import java.util.Map;
import java.util.Random;
import java.util.Set;
import java.util.TreeMap;
import java.util.TreeSet;

/** Machines and formulas by lot (always the same), each answer set beside one found straight from the document's words. */
public final class OracleChecks {
  private static final Comparator<String> ORDER =
      Comparator.comparingInt(String::length).thenComparing(Comparator.naturalOrder());
  private static int failures = 0;

  private static void due(String call, long got, long want) {
    if (got != want) {
      failures++;
      if (failures < 50) {
        System.out.println(call + " answered " + got + ", due is " + want);
      }
    }
  }

  /** Words as texts of 0, 1, 2. */
  private static final class Plain {
    int points;
    int start;
    int ends;
    int[][] moves;

    int walk(int from, String word) {
      int p = from;
      for (char c : word.toCharArray()) p = moves[p][c - '0'];
      return p;
    }

    boolean takes(String word) {
      return (ends >> walk(start, word) & 1) == 1;
    }

    @Override
    public String toString() {
      return "machine " + java.util.Arrays.deepToString(moves) + " start " + start + " ends " + ends;
    }
  }

  private static List<String> words(int most) {
    List<String> all = new ArrayList<>();
    all.add("");
    int from = 0;
    for (int n = 1; n <= most; n++) {
      int to = all.size();
      for (int k = from; k < to; k++) for (char c = '0'; c < '3'; c++) all.add(all.get(k) + c);
      from = to;
    }
    return all;
  }

  private static final List<String> UP_TO_5 = words(5);
  private static final List<String> UP_TO_9 = words(9);

  private static long number(String word) {
    long n = 0;
    for (char c : word.toCharArray()) n = n * 10 + (c - '0') + 1;
    return n;
  }

  private static Plain anyMachine(Random r, int style) {
    Plain m = new Plain();
    m.points = 1 + r.nextInt(4);
    if (style % 3 == 0) m.points = 4;
    m.start = r.nextInt(m.points);
    m.ends = r.nextInt(1 << m.points);
    m.moves = new int[m.points][3];
    for (int p = 0; p < m.points; p++) {
      for (int l = 0; l < 3; l++) {
        int to = r.nextInt(m.points);
        if (style % 4 == 1) to = Math.max(to, p);
        if (style % 4 == 2 && p > 0) to = r.nextInt(3) > 0 ? m.moves[0][l] : to;
        if (style % 4 == 3 && r.nextBoolean()) to = p;
        m.moves[p][l] = to;
      }
    }
    return m;
  }

  private static int give(WordMonoids x, Plain m) {
    int k = x.machine(m.points);
    for (int p = 0; p < m.points; p++) for (int l = 0; l < 3; l++) x.step(k, p, l, m.moves[p][l]);
    x.start(k, m.start);
    x.ends(k, m.ends);
    return k;
  }

  /** The least machine, by what is taken from each point of all words of 5 letters at most. */
  private static Plain leastOf(Plain m) {
    Map<String, Integer> byFuture = new HashMap<>();
    List<Integer> points = new ArrayList<>();
    for (String w : UP_TO_5) {
      int p = m.walk(m.start, w);
      if (byFuture.putIfAbsent(future(m, p), points.size()) == null) points.add(p);
    }
    Plain least = new Plain();
    least.points = points.size();
    least.moves = new int[least.points][3];
    for (int k = 0; k < points.size(); k++) {
      if ((m.ends >> points.get(k) & 1) == 1) least.ends |= 1 << k;
      for (int l = 0; l < 3; l++) least.moves[k][l] = byFuture.get(future(m, m.moves[points.get(k)][l]));
    }
    return least;
  }

  private static String future(Plain m, int p) {
    StringBuilder s = new StringBuilder();
    for (String w : UP_TO_5) s.append(m.ends >> m.walk(p, w) & 1);
    return s.toString();
  }

  private static String does(Plain m, String word) {
    StringBuilder s = new StringBuilder();
    for (int p = 0; p < m.points; p++) s.append(m.walk(p, word));
    return s.toString();
  }

  /** The least words of all elements in order. */
  private static List<String> elementsOf(Plain least) {
    Map<String, String> leastWord = new HashMap<>();
    leastWord.put(does(least, ""), "");
    boolean changed = true;
    while (changed) {
      changed = false;
      for (String w : new ArrayList<>(leastWord.values())) {
        for (char c = '0'; c < '3'; c++) {
          String longer = w + c;
          String d = does(least, longer);
          String old = leastWord.get(d);
          if (old == null || ORDER.compare(longer, old) < 0) {
            leastWord.put(d, longer);
            changed = true;
          }
        }
      }
    }
    List<String> all = new ArrayList<>(leastWord.values());
    all.sort(ORDER);
    return all;
  }

  private static int omega(int[][] t, int i) {
    int p = i;
    while (t[p][p] != p) p = t[p][i];
    return p;
  }

  private static boolean lawful(int[][] t, boolean[] tie, int law, int i, int j) {
    int w = omega(t, i);
    int e = omega(t, t[i][j]);
    int f = omega(t, t[j][i]);
    switch (law) {
      case 0: return t[w][i] == w;
      case 1: return i == 0 || t[i][i] != i;
      case 2: return t[i][j] == t[j][i];
      case 3: return t[i][i] == i;
      case 4: return t[e][i] == e;
      case 5: return t[j][e] == e;
      case 6: return t[e][i] == e && t[j][e] == e;
      case 8: return !tie[i] || t[j][i] == i;
      case 9: return !tie[i] || t[i][j] == i;
      case 10: return !tie[i] || t[t[i][j]][i] == i;
      case 11: return t[t[e][f]][e] == e;
      default:
        if (!tie[i]) return true;
        int x = t[t[i][j]][i];
        if (t[x][x] != x) return false;
        for (int s = 0; s < t.length; s++) {
          int y = t[t[i][s]][i];
          if (t[x][y] != t[y][x]) return false;
        }
        return true;
    }
  }

  private static void checkLaws(WordMonoids x, int k, Plain m, int[][] t, boolean[] tie) {
    int holds = 0;
    for (int law = 0; law < 12; law++) {
      boolean byOne = law == 0 || law == 1 || law == 3;
      int wrongI = -1;
      int wrongJ = -1;
      for (int i = 0; i < t.length && wrongI < 0; i++) {
        for (int j = 0; j < (byOne ? 1 : t.length) && wrongI < 0; j++) {
          if (!lawful(t, tie, law, i, j)) {
            wrongI = i;
            wrongJ = byOne ? -1 : j;
          }
        }
      }
      if (wrongI < 0) holds |= 1 << law;
      due(m + " wrong i " + law, x.wrong(k, law, 0), wrongI);
      due(m + " wrong j " + law, x.wrong(k, law, 1), wrongJ);
    }
    due(m + " holds", x.holds(k), holds);
  }

  private static Set<Integer> from(int[][] t, int j, int side) {
    Set<Integer> all = new HashSet<>();
    for (int s = 0; s < t.length; s++) {
      if (side == 0) all.add(t[j][s]);
      if (side == 1) all.add(t[s][j]);
      if (side == 2) for (int u = 0; u < t.length; u++) all.add(t[t[s][j]][u]);
    }
    return all;
  }

  private static void checkGreen(WordMonoids x, int k, Plain m, Plain least, List<String> es, int[][] t) {
    int n = t.length;
    int idempotents = 0;
    int greatest = 0;
    int taken = 0;
    int zero = -1;
    for (int i = 0; i < n; i++) {
      if (t[i][i] == i) idempotents++;
      if (least.takes(es.get(i))) taken++;
      boolean isZero = true;
      for (int j = 0; j < n; j++) isZero &= t[i][j] == i && t[j][i] == i;
      if (isZero) zero = i;
      List<Integer> powers = new ArrayList<>();
      int p = i;
      while (!powers.contains(p)) {
        powers.add(p);
        p = t[p][i];
      }
      due(m + " index " + i, x.power(k, i, 0), powers.indexOf(p) + 1);
      due(m + " period " + i, x.power(k, i, 1), powers.size() - powers.indexOf(p));
      due(m + " omega " + i, x.power(k, i, 2), omega(t, i));
      greatest = Math.max(greatest, powers.size() - powers.indexOf(p));
    }
    due(m + " idempotents", x.green(k, 0), idempotents);
    due(m + " greatest period", x.green(k, 4), greatest);
    due(m + " taken", x.green(k, 5), taken);
    due(m + " zero", x.green(k, 6), zero);
    for (int side = 0; side < 3; side++) {
      Set<Set<Integer>> classes = new HashSet<>();
      for (int j = 0; j < n; j++) {
        Set<Integer> ideal = from(t, j, side);
        classes.add(ideal);
        for (int i = j % 7; i < n; i += 7) {
          due(m + " below " + i + " " + j + " " + side, x.below(k, i, j, side), ideal.contains(i) ? 1 : 0);
        }
      }
      due(m + " classes " + side, x.green(k, 1 + side), classes.size());
    }
  }

  private static void checkElements(WordMonoids x, int k, Plain m) {
    Plain least = leastOf(m);
    due(m + " least", x.of(k, 3), least.points);
    due(m + " least ends", x.of(k, 4), least.ends);
    List<String> es = elementsOf(least);
    int n = es.size();
    due(m + " size", x.size(k), n);
    if (x.size(k) != n) return;
    Map<String, Integer> numbers = new HashMap<>();
    for (int i = 0; i < n; i++) {
      numbers.put(does(least, es.get(i)), i);
      due(m + " word " + i, x.word(k, i, -1), es.get(i).length());
      for (int c = 0; c <= es.get(i).length() + 1; c++) {
        due(m + " word " + i + " " + c, x.word(k, i, c), c < es.get(i).length() ? es.get(i).charAt(c) - '0' : -1);
      }
    }
    int[][] t = new int[n][n];
    for (int i = 0; i < n; i++) {
      for (int j = 0; j < n; j++) {
        t[i][j] = numbers.get(does(least, es.get(i) + es.get(j)));
        due(m + " times", x.times(k, i, j), t[i][j]);
      }
    }
    boolean[] tie = new boolean[n];
    for (int i = 0; i < n; i++) {
      for (int j = 0; j < n; j++) {
        for (char c = '0'; c < '3'; c++) {
          tie[i] |= t[i][i] == i && t[j][numbers.get(does(least, "" + c))] == i;
        }
      }
    }
    for (String w : UP_TO_5) due(m + " element " + w, x.element(k, (int) number(w)), numbers.get(does(least, w)));
    checkGreen(x, k, m, least, es, t);
    checkLaws(x, k, m, t, tie);
    for (int seed = -3; seed < 3; seed++) {
      int length = Math.floorMod(31 * (seed + 7) + m.ends, 100);
      due(m + " drawn", x.drawn(k, seed * 77777777, length), numbers.get(does(least, lot(seed * 77777777, length))));
    }
  }

  private static String lot(int seed, int n) {
    StringBuilder s = new StringBuilder();
    int z = seed;
    for (int k = 0; k < n; k++) {
      z = z * 1103515245 + 12345;
      s.append((z >>> 9) % 3);
    }
    return s.toString();
  }

  private static String known(String w, int kind, int level) {
    if (level == 0) return "";
    Set<String> set = new TreeSet<>();
    for (int a = 0; a < w.length(); a++) {
      if (level == 1 || kind == 0) set.add("" + w.charAt(a));
      if (level == 2 && kind == 0) for (int b = a + 1; b < w.length(); b++) set.add("" + w.charAt(a) + w.charAt(b));
      if (level == 2 && kind == 1 && a > 0) set.add("" + w.charAt(a - 1) + w.charAt(a));
    }
    String ends = level == 2 && kind == 1 && !w.isEmpty() ? w.charAt(0) + ".." + w.charAt(w.length() - 1) : "";
    return ends + set;
  }

  /** For what is known: to which points words of which it is known lead; by shortest words for both. */
  private static Map<String, Set<Integer>> reached(Plain m, int kind, int level) {
    Map<String, Set<Integer>> all = new TreeMap<>();
    ArrayDeque<String> queue = new ArrayDeque<>();
    queue.add("");
    all.computeIfAbsent(known("", kind, level), s -> new HashSet<>()).add(m.start);
    while (!queue.isEmpty()) {
      String w = queue.poll();
      for (char c = '0'; c < '3'; c++) {
        String longer = w + c;
        if (all.computeIfAbsent(known(longer, kind, level), s -> new HashSet<>()).add(m.walk(m.start, longer))) {
          queue.add(longer);
        }
      }
    }
    return all;
  }

  private static int levelOf(Plain m, int kind) {
    for (int level = 0; level < 3; level++) {
      boolean tells = true;
      for (Set<Integer> points : reached(m, kind, level).values()) {
        boolean yes = false;
        boolean no = false;
        for (int p : points) {
          yes |= (m.ends >> p & 1) == 1;
          no |= (m.ends >> p & 1) == 0;
        }
        tells &= !(yes && no);
      }
      if (tells) return level;
    }
    return -1;
  }

  private static Set<String> knownOfTaken(Plain m, int kind, int level) {
    Set<String> all = new HashSet<>();
    reached(m, kind, level).forEach((known, points) -> {
      for (int p : points) if ((m.ends >> p & 1) == 1) all.add(known);
    });
    return all;
  }

  private static int separation(Plain one, Plain two, int kind) {
    for (int level = 0; level < 3; level++) {
      Set<String> both = knownOfTaken(one, kind, level);
      both.retainAll(knownOfTaken(two, kind, level));
      if (both.isEmpty()) return level;
    }
    return -1;
  }

  private static void checkPairs(WordMonoids x, Plain one, Plain two) {
    for (int kind = 0; kind < 2; kind++) {
      due(one + " level " + kind, x.level(0, kind), levelOf(one, kind));
      due(one + " " + two + " separates " + kind, x.separates(0, 1, kind), separation(one, two, kind));
    }
    for (int what = 0; what < 3; what++) {
      long want = -1;
      for (int k = UP_TO_9.size() - 1; k >= 0; k--) {
        boolean a = one.takes(UP_TO_9.get(k));
        boolean b = two.takes(UP_TO_9.get(k));
        if (what == 0 ? a && b : what == 1 ? a != b : a && !b) want = number(UP_TO_9.get(k));
      }
      long got = x.least(0, 1, what);
      if (want >= 0 || got < 1000000000L) due(one + " " + two + " least " + what, got, want);
    }
  }

  private static void checkCounts(WordMonoids x, Plain m) {
    int[] counts = new int[10];
    for (String w : UP_TO_9) if (m.takes(w)) counts[w.length()]++;
    for (int n = 0; n < 10; n++) due(m + " many " + n, x.many(0, 0, n), counts[n]);
    for (int seed = 0; seed < 4; seed++) {
      int of = 1 + 6 * seed;
      int length = 33 * seed;
      int taken = 0;
      for (int k = 0; k < of; k++) if (m.takes(lot(seed * 1234567891 + k, length))) taken++;
      int g = java.math.BigInteger.valueOf(taken).gcd(java.math.BigInteger.valueOf(of)).intValue();
      due(m + " chance above", x.chance(0, seed * 1234567891, of, length, 0), taken / g);
      due(m + " chance below", x.chance(0, seed * 1234567891, of, length, 1), of / g);
    }
  }

  private static void checkQuotients(Random r, Plain m) {
    WordMonoids x = new WordMonoids();
    give(x, m);
    int letter = r.nextInt(3);
    int side = r.nextInt(2);
    x.quotient(0, letter, side);
    for (String w : UP_TO_5) {
      due(m + " quotient", x.takes(0, (int) number(w)), m.takes(side == 0 ? letter + w : w + letter) ? 1 : 0);
    }
    x.turn(0);
    for (String w : UP_TO_5) {
      due(m + " turned", x.takes(0, (int) number(w)), m.takes(side == 0 ? letter + w : w + letter) ? 0 : 1);
    }
  }

  // ---- formulas

  private static String anyFormula(Random r, int open, int depth) {
    int sort = r.nextInt(depth <= 0 ? 1 : 5);
    if (sort >= 3) return anyFormula(r, open, depth - 1) + (sort == 3 ? "&" : "|") + anyFormula(r, open, depth - 1);
    if (sort == 2 && open < 6) return "(" + anyFormula(r, open + 1, depth - 1) + ")";
    if (sort == 1 && open < 6) return "!" + (r.nextBoolean() || open > 4 ? anyAtom(r) : "(" + anyFormula(r, open + 2, depth - 1) + ")");
    return anyAtom(r);
  }

  private static String anyAtom(Random r) {
    int sort = r.nextInt(10);
    if (sort == 0) return "e";
    if (sort == 1) return "%" + (2 + r.nextInt(4));
    StringBuilder s = new StringBuilder("" + "^$#~".charAt(r.nextInt(4)));
    for (int k = r.nextInt(3); k >= 0; k--) s.append("abc".charAt(r.nextInt(3)));
    return s.toString();
  }

  /** Says of a word what a right formula says: by cutting at the outermost | and &. */
  private static boolean says(String f, String w) {
    for (char sign : new char[] {'|', '&'}) {
      int open = 0;
      for (int k = 0; k < f.length(); k++) {
        if (f.charAt(k) == '(') open++;
        if (f.charAt(k) == ')') open--;
        if (open == 0 && f.charAt(k) == sign) {
          boolean left = says(f.substring(0, k), w);
          boolean right = says(f.substring(k + 1), w);
          return sign == '|' ? left || right : left && right;
        }
      }
    }
    String rest = f.substring(1);
    String letters = rest.replace('a', '0').replace('b', '1').replace('c', '2');
    switch (f.charAt(0)) {
      case '!': return !says(rest, w);
      case '(': return says(f.substring(1, f.length() - 1), w);
      case 'e': return w.isEmpty();
      case '%': return w.length() % (rest.charAt(0) - '0') == 0;
      case '^': return w.startsWith(letters);
      case '$': return w.endsWith(letters);
      case '#': return w.contains(letters);
      default: return w.matches(".*" + String.join(".*", letters.split("")) + ".*");
    }
  }

  /** A formula that of all words of 5 letters at most is so of just this one. */
  private static String justThe(String word) {
    String w = word.replace('0', 'a').replace('1', 'b').replace('2', 'c');
    switch (w.length()) {
      case 0: return "e";
      case 1: return "^" + w + "&!%2&!%3&!%5";
      case 2: return "^" + w + "&%2&!%4";
      case 3: return "^" + w + "&%3";
      default: return "^" + w.substring(0, 3) + "&$" + w.substring(w.length() - 3) + "&%" + w.length();
    }
  }

  /** The causes of a text, by a row of what is open and what may come; null: it is a formula. */
  private static List<Integer> causesOf(String text) {
    List<Integer> open = new ArrayList<>();
    boolean wanted = true;
    int k = 0;
    while (k < text.length()) {
      char c = text.charAt(k);
      int fault = -1;
      if (wanted && (c == '!' || c == '(')) {
        if (open.size() == 6) fault = k;
        else open.add(k++);
      } else if (wanted) {
        int size = c == 'e' ? 1 : c == '%' ? 2 : "^$#~".indexOf(c) >= 0 ? 2 : 0;
        if (size == 0) fault = k;
        else if (size == 2 && (k + 1 >= text.length() || (c == '%' ? "2345" : "abc").indexOf(text.charAt(k + 1)) < 0)) fault = k + 1;
        else {
          k += size;
          for (int more = 0; more < 2 && size == 2 && c != '%' && k < text.length() && "abc".indexOf(text.charAt(k)) >= 0; more++) k++;
          wanted = false;
        }
      } else if (c == '&' || c == '|') {
        wanted = true;
        k++;
      } else if (c == ')' && !open.isEmpty()) {
        open.remove(open.size() - 1);
        k++;
      } else {
        fault = k;
      }
      if (!wanted) while (!open.isEmpty() && text.charAt(open.get(open.size() - 1)) == '!') open.remove(open.size() - 1);
      if (fault >= 0) return causes(open, fault);
    }
    return wanted || !open.isEmpty() ? causes(open, text.length()) : null;
  }

  private static List<Integer> causes(List<Integer> open, int fault) {
    List<Integer> all = new ArrayList<>();
    all.add(0);
    all.addAll(open);
    all.add(fault);
    return all;
  }

  private static int read(WordMonoids x, String text) {
    for (int k = 0; k < text.length(); k++) x.feed(1, text.charAt(k), 0, 0, 0, 0);
    return x.formula();
  }

  private static void checkFormula(Random r) {
    String f = anyFormula(r, 0, 4);
    if (f.length() > 60) return;
    WordMonoids x = new WordMonoids();
    due("formula " + f, read(x, f), causesOf(f) == null ? 0 : -100 - causesOf(f).get(causesOf(f).size() - 1));
    if (x.count(1) == 0) return;
    int[] counts = new int[6];
    List<String> said = new ArrayList<>();
    for (String w : UP_TO_5) {
      boolean so = says(f, w);
      due(f + " says " + w, x.says(0, (int) number(w)), so ? 1 : 0);
      if (so) {
        counts[w.length()]++;
        said.add(w);
      }
    }
    for (int n = 0; n < 6; n++) due(f + " many " + n, x.many(1, 0, n), counts[n]);
    int n = r.nextInt(41);
    due(f + " film", x.film(0, 1, 0, n), Math.min(n, said.size()));
    for (int formula = 1; formula < 4 && n > 0; formula++) {
      int k = r.nextInt(n);
      x.sheet(1, 1, 2);
      x.copy(0, k, 1, 0, 1);
      x.put(1, 1, 1);
      read(x, justThe(k < said.size() ? said.get(k) : ""));
      due(f + " film " + k, x.tells(1, 1, formula), -1);
    }
    Plain m = anyMachine(r, r.nextInt(4));
    give(x, m);
    long apart = -1;
    for (int k = UP_TO_5.size() - 1; k >= 0; k--) {
      if (m.takes(UP_TO_5.get(k)) != says(f, UP_TO_5.get(k))) apart = number(UP_TO_5.get(k));
    }
    due(f + " " + m + " agree", x.agree(0, 0, 5), apart);
    due(f + " " + m + " agree 3", x.agree(0, 0, 3), apart > 333 ? -1 : apart);
  }

  private static void checkLongWords(Random r) {
    String f = anyFormula(r, 0, 3);
    if (f.length() > 60) return;
    WordMonoids x = new WordMonoids();
    if (read(x, f) != 0) return;
    int found = 0;
    for (String w : UP_TO_9) {
      if (w.length() != 9) continue;
      boolean so = says(f, w);
      if (so) found++;
    }
    due(f + " many 9", x.many(1, 0, 9), found);
  }

  private static void checkFault(Random r) {
    StringBuilder text = new StringBuilder(anyFormula(r, 0, 4));
    int cuts = r.nextInt(3);
    for (int k = 0; k < cuts && text.length() > 0; k++) {
      int at = r.nextInt(text.length());
      int way = r.nextInt(3);
      char sign = "!(()&|e%2^$#~abcx".charAt(r.nextInt(17));
      if (way == 0) text.deleteCharAt(at);
      if (way == 1) text.insert(at, sign);
      if (way == 2) text.setCharAt(at, sign);
    }
    if (r.nextInt(4) == 0) text.insert(0, "!(!(!(!((((".substring(0, r.nextInt(11)));
    if (text.length() > 60) text.setLength(60);
    String f = text.toString();
    List<Integer> causes = causesOf(f);
    WordMonoids x = new WordMonoids();
    due("reading " + f, read(x, f), causes == null ? 0 : -100 - causes.get(causes.size() - 1));
    due("causes of " + f, x.why(-1), causes == null ? 0 : causes.size());
    for (int k = 0; causes != null && k < causes.size(); k++) due("cause " + k + " of " + f, x.why(k), causes.get(k));
  }

  public static void main(String[] args) {
    Random r = new Random(20261118);
    for (int round = 0; round < 400; round++) {
      Plain one = anyMachine(r, round);
      Plain two = anyMachine(r, round / 4);
      WordMonoids x = new WordMonoids();
      give(x, one);
      give(x, two);
      checkElements(x, 0, one);
      checkCounts(x, one);
      checkQuotients(r, one);
      if (round % 2 == 0) checkPairs(x, one, two);
    }
    for (int round = 0; round < 3000; round++) checkFault(r);
    for (int round = 0; round < 300; round++) checkFormula(r);
    for (int round = 0; round < 20; round++) checkLongWords(r);
    System.out.println(failures == 0 ? "all answers are as the document's words" : failures + " answers are not as due");
    if (failures != 0) {
      System.exit(1);
    }
  }
}
