import java.lang.reflect.InvocationTargetException;
import java.lang.reflect.Method;
import java.nio.file.Files;
import java.nio.file.Path;
import java.util.HashMap;
import java.util.Map;
import java.util.Set;
import java.util.function.Consumer;

/**
 * A test for each sentence of the document that names a boundary: too small, too large, empty, full, a wrap-around,
 * a refused call. Each names its promise and quotes the sentence, which must stand in the document; each starts with a
 * new object.
 *
 * <p>The rows of a test: call(numbers)=answer; read:TEXT=answer (feeds the text, a _ being a blank, then formula());
 * causes:a,b,c (all that why tells); made:START/ENDS/MOVES,..=number (a machine, the digits of each point's moves);
 * moves:MACHINE:MOVES,.. (where its letters lead); put:SHEET:a,b,.. (items from 0 on).
 *
 * <p>Behind each test the same rows without those that are refused are run on a second object: both must then be alike.
 */
public final class BoundaryChecks {
  private static final int CALLS_MOST = 512;
  private static final int PROMISES = 39;
  private static final Set<Long> REFUSALS = Set.of(-2L, -3L, -4L, -11L, -12L, -13L, -14L);
  private static final Map<String, Method> METHODS = new HashMap<>();
  private static final int[] TESTS = new int[PROMISES + 1];
  private static String document = "";
  private static int failures = 0;
  private static int tests = 0;
  private static int promise = 0;
  private static String sentence = "";
  private static int calls = 0;

  // ---- the harness

  private static void fail(String what) {
    failures++;
    System.out.println("promise " + promise + ", \"" + sentence + "\": " + what);
  }

  private static void due(String call, long got, long want) {
    if (got != want) {
      fail(call + " answered " + got + ", due is " + want);
    }
  }

  private static void begin(int number, String words) {
    promise = number;
    sentence = words;
    calls = 0;
    tests++;
    TESTS[number]++;
    int from = document.indexOf("## Promise " + number + ":");
    int to = number == PROMISES ? document.indexOf("## Not promised") : document.indexOf("## Promise " + (number + 1) + ":");
    boolean told = document.substring(0, document.indexOf("## Promise 1:")).contains(words)
        || document.substring(from, to).contains(words);
    if (!told) {
      fail("no such sentence in the document");
    }
  }

  private static void test(int number, String words, String rows) {
    begin(number, words);
    WordMonoids x = new WordMonoids();
    runRows(x, rows, true);
    String after = state(x);
    if (calls > CALLS_MOST) {
      fail("the test makes " + calls + " calls");
    }
    WordMonoids y = new WordMonoids();
    calls = 0;
    runRows(y, rows, false);
    if (!state(y).equals(after)) {
      fail("a refused call changed something");
    }
  }

  private static void testBy(int number, String words, Consumer<WordMonoids> body) {
    begin(number, words);
    try {
      body.accept(new WordMonoids());
    } catch (RuntimeException e) {
      fail("threw " + e);
    }
  }

  private static long invoke(WordMonoids x, String name, int... numbers) {
    calls++;
    try {
      Object[] given = new Object[numbers.length];
      for (int k = 0; k < numbers.length; k++) {
        given[k] = numbers[k];
      }
      return ((Number) METHODS.get(name).invoke(x, given)).longValue();
    } catch (InvocationTargetException e) {
      fail(name + " threw " + e.getCause());
    } catch (IllegalAccessException e) {
      fail(name + " can't be called");
    }
    return Long.MIN_VALUE;
  }

  private static int number(String text) {
    return text.equals("MIN") ? Integer.MIN_VALUE : text.equals("MAX") ? Integer.MAX_VALUE : Integer.parseInt(text);
  }

  private static int[] numbers(String list) {
    String[] parts = list.isEmpty() ? new String[0] : list.split(",");
    int[] all = new int[parts.length];
    for (int k = 0; k < parts.length; k++) {
      all[k] = number(parts[k]);
    }
    return all;
  }

  private static void runRows(WordMonoids x, String rows, boolean withRefused) {
    for (String row : rows.trim().split("\\s+")) {
      String kind = row.replaceFirst("[:(].*", "");
      switch (row.startsWith(kind + ":") ? kind : "call") {
        case "read" -> runRead(x, row);
        case "causes" -> runCauses(x, row);
        case "made" -> runMade(x, row);
        case "moves" -> runMoves(x, row);
        case "put" -> runPut(x, row);
        default -> runCall(x, row, withRefused);
      }
    }
  }

  private static void runCall(WordMonoids x, String row, boolean withRefused) {
    String name = row.substring(0, row.indexOf('('));
    long want = Long.parseLong(row.substring(row.indexOf('=') + 1));
    boolean isRefused = REFUSALS.contains(want) && !(name.equals("load") && want == -12);
    if (isRefused && !withRefused) {
      return;
    }
    String call = row.substring(0, row.indexOf('='));
    due(call, invoke(x, name, numbers(row.substring(row.indexOf('(') + 1, row.indexOf(')')))), want);
  }

  private static void feedText(WordMonoids x, String text) {
    for (int k = 0; k < text.length(); k += 5) {
      int n = Math.min(5, text.length() - k);
      int[] given = {n, 0, 0, 0, 0, 0};
      for (int at = 0; at < n; at++) {
        given[at + 1] = text.charAt(k + at);
      }
      invoke(x, "feed", given);
    }
  }

  private static void runRead(WordMonoids x, String row) {
    String text = row.substring(5, row.lastIndexOf('=')).replace('_', ' ');
    feedText(x, text);
    due("formula " + text, invoke(x, "formula"), Long.parseLong(row.substring(row.lastIndexOf('=') + 1)));
  }

  private static void runCauses(WordMonoids x, String row) {
    int[] want = numbers(row.substring(7));
    due("why(-1)", invoke(x, "why", -1), want.length);
    for (int k = 0; k < want.length; k++) {
      due("why(" + k + ")", invoke(x, "why", k), want[k]);
    }
    due("why(" + want.length + ")", invoke(x, "why", want.length), -1);
  }

  private static void runMade(WordMonoids x, String row) {
    String[] parts = row.substring(5, row.indexOf('=')).split("/");
    String[] moves = parts[2].split(",");
    int m = (int) invoke(x, "machine", moves.length);
    due("machine " + row, m, Long.parseLong(row.substring(row.indexOf('=') + 1)));
    for (int at = 0; at < 3 * moves.length; at++) {
      invoke(x, "step", m, at / 3, at % 3, moves[at / 3].charAt(at % 3) - '0');
    }
    invoke(x, "start", m, number(parts[0]));
    invoke(x, "ends", m, number(parts[1]));
  }

  private static void runMoves(WordMonoids x, String row) {
    String[] parts = row.split(":");
    String[] moves = parts[2].split(",");
    for (int at = 0; at < 3 * moves.length; at++) {
      due("of(" + parts[1] + ", " + (10 + at) + ")", invoke(x, "of", number(parts[1]), 10 + at), moves[at / 3].charAt(at % 3) - '0');
    }
  }

  private static void runPut(WordMonoids x, String row) {
    String[] parts = row.split(":");
    int[] items = numbers(parts[2]);
    for (int k = 0; k < items.length; k++) {
      due("put(" + parts[1] + ", " + k + ")", invoke(x, "put", number(parts[1]), k, items[k]), 1);
    }
  }

  /** What the object is, as far as it can be asked within the calls that it has left. */
  private static String state(WordMonoids x) {
    StringBuilder s = new StringBuilder();
    for (int what = 0; what < 4; what++) s.append(invoke(x, "count", what)).append(' ');
    for (int i = -1; i < 8; i++) s.append(invoke(x, "why", i)).append(' ');
    for (int f = 0; f < 4; f++) for (int n = 0; n < 3; n++) s.append(invoke(x, "many", 1, f, n)).append(' ');
    appendMachines(x, s);
    s.append(invoke(x, "back")).append(' ');
    appendMachines(x, s);
    for (int k = 0; k < 3; k++) invoke(x, "drop");
    for (int sheet = 0; sheet < 4; sheet++) appendSheet(x, s, sheet);
    return s.toString();
  }

  private static void appendMachines(WordMonoids x, StringBuilder s) {
    for (int m = 0; m < 3; m++) {
      long points = invoke(x, "of", m, 0);
      s.append(points).append(' ').append(invoke(x, "of", m, 1)).append(' ').append(invoke(x, "of", m, 2)).append(' ');
      for (int at = 0; at < 3 * points; at++) s.append(invoke(x, "of", m, 10 + at)).append(' ');
    }
  }

  /** Its size by copies onto itself, its first items by a machine that is led by them. */
  private static void appendSheet(WordMonoids x, StringBuilder s, int sheet) {
    int low = 0;
    int high = 40;
    for (int k = 0; k < 6; k++) {
      int middle = (low + high + 1) / 2;
      if (invoke(x, "copy", sheet, 0, sheet, 0, middle) == middle) low = middle;
      else high = middle - 1;
    }
    invoke(x, "machine", 4);
    s.append(low).append(' ').append(invoke(x, "load", sheet, 0, 0, 0)).append(' ').append(invoke(x, "load", sheet, 1, 0, 0));
    for (int at = 0; at < 12; at++) s.append(' ').append(invoke(x, "of", 0, 10 + at));
    invoke(x, "drop");
  }

  // ---- promises 1 to 10: machines

  private static void newObject() {
    test(1, "No MACHINES.", """
        count(0)=0 count(3)=0 of(0,0)=-2 takes(0,0)=-2 size(0)=-2 drop()=-3 image()=0 machine(1)=0""");
    test(1, "or missing (as all are at first)", "put(0,0,0)=-11 put(1,0,0)=-11 put(2,0,0)=-11 put(3,0,0)=-11");
    test(1, "BAD (-2: a number is none such or not as told), STATE (-3), FULL (-4)", """
        machine(0)=-2 drop()=-3 machine(1)=0 machine(1)=1 machine(1)=2 machine(1)=-4""");
    testBy(1, "public static final int NONE = -1, BAD = -2, STATE = -3, FULL = -4;", x -> {
      due("NONE", WordMonoids.NONE, -1);
      due("BAD", WordMonoids.BAD, -2);
      due("STATE", WordMonoids.STATE, -3);
      due("FULL", WordMonoids.FULL, -4);
    });
    test(1, "Refusals, the first that the call's words name; they change nothing (but THE TAPE, where told)", """
        machine(1)=0 machine(2)=1 machine(3)=2 machine(5)=-2 machine(4)=-4 read:~ax=-102 count(2)=0 read:e=0 read:e=1 read:e=2 read:e=3
        read:~ax=-4 count(2)=3 feed(5,1,1,1,1,256)=-2 count(2)=3 load(0,0,0,3)=-2 load(0,0,0,0)=-11 sheet(0,1,2)=1 load(0,0,9,0)=-13
        load(0,1,9,0)=-12 sheet(0,2,-1)=-2 sheet(0,1,-1)=-14 copy(0,9,4,9,9)=-2 copy(0,9,1,9,9)=-11 sheet(1,0,2)=1
        copy(0,9,1,9,9)=-13 copy(0,9,0,9,9)=-12 put(4,9,0)=-2 put(2,9,0)=-11 put(0,9,0)=-12 tells(2,0,3)=-2 tells(2,0,0)=-11""");
    testBy(1, "What is asked changes nothing.", BoundaryChecks::askingChangesNothing);
    testBy(1, "An object is used for at most 512 calls after it has been made", x -> {
      x.machine(2);
      x.ends(0, 2);
      for (int k = 2; k < CALLS_MOST - 2; k += 2) {
        due("step", x.step(0, 0, 0, k / 2 % 2), k == 2 ? 0 : 1 - k / 2 % 2);
        due("takes", x.takes(0, 1), k / 2 % 2);
      }
      due("the 511th call", x.step(0, 0, 0, 1), 0);
      due("the 512th call", x.size(0), 2);
    });
  }

  private static void askingChangesNothing(WordMonoids x) {
    String rows = """
        made:0/4/100,121,222=0 made:1/2/121,010,222=1 read:~ab=0 read:(x=-101 sheet(0,1,6)=1 put:0:12,1,2,0,1,0
        sheet(1,0,3)=1 image()=2 feed(2,33,40,0,0,0)=2""";
    runRows(x, rows, true);
    String[] asked = {"of(0,3)", "takes(0,12)", "size(0)", "word(0,1,0)", "element(0,12)", "times(0,1,2)", "power(0,1,2)",
      "below(0,1,2,2)", "green(0,3)", "holds(1)", "wrong(1,2,0)", "level(0,1)", "separates(0,1,0)", "least(0,1,0)", "why(1)",
      "says(0,12)", "many(1,0,5)", "agree(0,0,5)", "drawn(1,7,99)", "chance(0,7,20,99,0)", "tells(0,0,0)", "count(3)"};
    for (String call : asked) {
      invoke(x, call.substring(0, call.indexOf('(')), numbers(call.substring(call.indexOf('(') + 1, call.indexOf(')'))));
    }
    WordMonoids y = new WordMonoids();
    runRows(y, rows, true);
    if (!state(x).equals(state(y))) {
      fail("what was asked changed something");
    }
  }

  /** {P} points, {L} the last of them, {A} the set of all, {N} the first bit beyond, {T} asks for the last move, {U} beyond. */
  private static String forPoints(int points, String rows) {
    return rows.replace("{P}", "" + points).replace("{L}", "" + (points - 1)).replace("{A}", "" + ((1 << points) - 1))
        .replace("{N}", "" + (1 << points)).replace("{T}", "" + (9 + 3 * points)).replace("{U}", "" + (10 + 3 * points));
  }

  private static void machines() {
    test(2, "have POINTS 0 .. (1 .. 4 of them)", """
        machine(0)=-2 machine(5)=-2 machine(-1)=-2 machine(MIN)=-2 machine(MAX)=-2 count(0)=0 machine(1)=0 machine(4)=1
        of(0,0)=1 of(1,0)=4 count(3)=5""");
    test(2, "MACHINES, numbered from 0 as they come (3 at most)", """
        machine(1)=0 machine(2)=1 machine(3)=2 machine(4)=-4 count(0)=3 count(3)=6 drop()=2 machine(4)=2 machine(1)=-4""");
    test(2, "A MACHINE of so many POINTS comes: its number. BAD; FULL.", """
        machine(1)=0 machine(1)=1 machine(1)=2 machine(0)=-2 machine(5)=-2 machine(4)=-4 machine(1)=-4""");
    test(2, "As one comes each LETTER leads to where one is, START is 0, ENDS are none.", """
        machine(4)=0 moves:0:000,111,222,333 of(0,1)=0 of(0,2)=0 made:3/15/321,012,301,210=1 drop()=1 machine(4)=1
        moves:1:000,111,222,333 of(1,1)=0 of(1,2)=0 image()=2 made:1/3/111,000=2 back()=2 machine(2)=2
        moves:2:000,111 of(2,1)=0 of(2,2)=0""");
    test(3, "The latest MACHINE is none any more: how many there are.", """
        machine(1)=0 machine(2)=1 machine(3)=2 drop()=2 of(2,0)=-2 of(1,0)=2 drop()=1 of(1,0)=-2 of(0,0)=1 drop()=0
        of(0,0)=-2 count(3)=0""");
    test(3, "STATE: none.", "drop()=-3 machine(1)=0 drop()=0 drop()=-3 drop()=-3 count(0)=0 machine(1)=0");
    test(4, "From a POINT a LETTER leads to another one (or to itself): where it led.", """
        machine(4)=0 step(0,0,0,3)=0 step(0,0,0,0)=3 step(0,0,0,0)=0 step(0,3,2,0)=3 step(0,3,2,3)=0 step(0,3,2,1)=3
        moves:0:000,111,222,331""");
    for (int points = 1; points <= 4; points++) {
      test(4, "where it led. BAD.", forPoints(points, """
          machine({P})=0 step(0,{L},2,0)={L} step(0,0,0,{L})=0 step(0,{P},0,0)=-2 step(0,-1,0,0)=-2 step(0,0,3,0)=-2
          step(0,0,-1,0)=-2 step(0,0,0,{P})=-2 step(0,0,0,-1)=-2 step(1,0,0,0)=-2 step(-1,0,0,0)=-2 step(3,0,0,0)=-2
          step(MIN,0,0,0)=-2 step(MAX,0,0,0)=-2 step(0,MAX,0,0)=-2 step(0,0,MAX,0)=-2 step(0,0,0,MAX)=-2 step(0,MIN,0,0)=-2
          step(0,0,MIN,0)=-2 step(0,0,0,MIN)=-2"""));
      test(5, "BAD: machine, set (bits of none there).", forPoints(points, """
          machine({P})=0 ends(0,{A})=0 ends(0,{N})=-2 ends(0,-1)=-2 ends(0,MIN)=-2 ends(0,16)=-2 ends(0,MAX)=-2 ends(1,0)=-2
          ends(-1,0)=-2 ends(3,0)=-2 of(0,2)={A}"""));
      test(6, "START becomes another one: what it was. BAD.", forPoints(points, """
          machine({P})=0 start(0,{L})=0 start(0,{P})=-2 start(0,-1)=-2 start(0,MAX)=-2 start(0,MIN)=-2 start(1,0)=-2
          start(-1,0)=-2 start(3,0)=-2 of(0,1)={L} start(0,0)={L}"""));
    }
    test(5, "ENDS become others: what they were.", """
        machine(4)=0 ends(0,15)=0 ends(0,15)=15 ends(0,0)=15 ends(0,8)=0 of(0,2)=8 ends(0,1)=8""");
  }

  private static void ofMachines() {
    for (int points = 1; points <= 4; points++) {
      test(7, "BAD: machine, what.", forPoints(points, """
          machine({P})=0 of(0,-1)=-2 of(0,5)=-2 of(0,6)=-2 of(0,7)=-2 of(0,8)=-2 of(0,9)=-2 of(0,{T})={L} of(0,{U})=-2
          of(0,MAX)=-2 of(0,MIN)=-2 of(1,0)=-2 of(-1,0)=-2 of(3,0)=-2 of(0,0)={P}"""));
    }
    test(7, "where LETTER l leads from POINT p (10, and 3 times p, and l)", """
        made:0/8/123,023,013,012=0 of(0,10)=1 of(0,12)=3 of(0,13)=0 of(0,15)=3 of(0,19)=0 of(0,21)=2""");
    test(7, "POINTS that can be come to from START", """
        made:1/15/000,110,233,322=0 of(0,3)=1 of(0,4)=1 ends(0,12)=15 of(0,3)=1 of(0,4)=0 ends(0,1)=12 of(0,3)=2 of(0,4)=2
        start(0,0)=1 of(0,3)=1 of(0,4)=1""");
    test(7, "those from which just the same words lead to ENDS being one", """
        made:0/0/123,023,013,012=0 of(0,3)=1 of(0,4)=0 ends(0,15)=0 of(0,3)=1 of(0,4)=1
        made:0/10/111,222,333,000=1 of(1,3)=2 of(1,4)=2 ends(1,8)=10 of(1,3)=4 of(1,4)=8""");
    test(7, "numbered as they are come to first: START 0; then from 0, 1, .. on by LETTERS 0, 1, 2 those that are new.", """
        made:0/8/321,111,222,333=0 of(0,3)=3 of(0,4)=2 made:3/2/000,111,222,213=1 of(1,3)=3 of(1,4)=4
        made:2/2/000,013,312,333=2 of(2,4)=4 of(2,3)=3 of(0,4)=2 of(1,4)=4 of(0,3)=3""");
    test(7, "how many POINTS (what 0), START (1), ENDS (2), how many POINTS THE LEAST has (3), its ENDS (4, bits)", """
        made:3/6/111,222,000,213=0 of(0,0)=4 of(0,1)=3 of(0,2)=6 of(0,3)=4 of(0,4)=6 made:1/1/111,000=1 of(1,0)=2 of(1,1)=1 of(1,2)=1
        of(1,3)=2 of(1,4)=2 machine(1)=2 of(2,0)=1 of(2,1)=0 of(2,2)=0 of(2,3)=1 of(2,4)=0 turn(2)=1 of(2,4)=1""");
    test(8, "a digit 1, 2, 3 for LETTER 0, 1, 2 each", """
        made:0/2/123,111,222,333=0 takes(0,1)=1 takes(0,2)=0 takes(0,3)=0 ends(0,4)=2 takes(0,1)=0 takes(0,2)=1 takes(0,3)=0 ends(0,8)=4
        takes(0,1)=0 takes(0,2)=0 takes(0,3)=1 takes(0,0)=0""");
    test(8, "WORDS of 0 .. 9 letters are told as whole numbers", """
        machine(1)=0 ends(0,1)=0 takes(0,0)=1 takes(0,1)=1 takes(0,3)=1 takes(0,111111111)=1 takes(0,333333333)=1
        takes(0,1111111111)=-2 takes(0,2111111111)=-2 takes(0,2122222222)=-2""");
    testBy(8, "any other number (a digit of another sort, more than 9, below 0) is no WORD", BoundaryChecks::everyDigitCounts);
    test(8, "the first letter the highest; 0 the empty one", """
        made:0/2/120,111,222=0 takes(0,0)=0 takes(0,12)=1 takes(0,21)=0 takes(0,312)=1 takes(0,321)=0 takes(0,333333331)=1
        takes(0,133333332)=1 takes(0,233333331)=0 takes(0,3)=0 turn(0)=5 takes(0,0)=1""");
    test(8, "if one comes from START, letter by letter, to one of ENDS", """
        made:2/4/111,222,000=0 takes(0,0)=1 takes(0,1)=0 takes(0,11)=0 takes(0,123)=1 takes(0,123123123)=1 start(0,0)=2
        takes(0,0)=0 takes(0,33)=1 ends(0,0)=4 takes(0,33)=0 ends(0,7)=0 takes(0,33)=1""");
    test(8, "Whether it TAKES a WORD: 1, 0. BAD.", """
        takes(0,0)=-2 machine(1)=0 takes(0,0)=0 takes(1,0)=-2 takes(-1,0)=-2 takes(3,0)=-2 takes(0,-1)=-2 takes(0,-12)=-2
        takes(0,MIN)=-2 takes(0,MAX)=-2 takes(MAX,0)=-2 takes(MIN,0)=-2""");
  }

  /** Each of the ten digits at each of the nine places, and the minus ahead of it. */
  private static void everyDigitCounts(WordMonoids x) {
    x.machine(1);
    x.ends(0, 1);
    int place = 1;
    for (int k = 0; k < 9; k++) {
      for (int digit = 0; digit < 10; digit++) {
        int word = 222222222 - 2 * place + digit * place;
        boolean isWord = digit >= 1 && digit <= 3;
        if (digit > 0 || k < 8) {
          due("takes " + word, x.takes(0, word), isWord ? 1 : -2);
        }
        due("takes -" + word, x.takes(0, -word), -2);
      }
      due("takes of one digit and noughts", x.takes(0, place), k == 0 ? 1 : -2);
      place *= 10;
    }
  }

  private static void quotients() {
    test(9, "START becomes the POINT to which it leads from START", """
        made:3/1/012,120,201,302=0 quotient(0,0,0)=3 quotient(0,2,0)=2 of(0,1)=2 quotient(0,1,0)=0 of(0,1)=0 of(0,2)=1""");
    test(9, "ENDS become the POINTS from which it leads to ENDS", """
        made:0/8/113,303,333,012=0 quotient(0,2,1)=7 of(0,2)=7 quotient(0,0,1)=9 quotient(0,1,1)=6 quotient(0,1,1)=9
        ends(0,15)=9 quotient(0,1,1)=15 ends(0,0)=15 quotient(0,0,1)=0 of(0,1)=0 ends(0,4)=0 quotient(0,0,1)=0""");
    test(9, "QUOTIENT by a LETTER: on the left (side 0)", """
        made:0/8/100,120,123,333=0 takes(0,123)=1 takes(0,23)=0 quotient(0,0,0)=1 takes(0,123)=1 takes(0,23)=1 takes(0,3)=0
        quotient(0,2,1)=12 takes(0,2)=1 takes(0,0)=0 quotient(0,1,1)=14 takes(0,0)=1""");
    test(9, "QUOTIENT, truly: START then (side 0), ENDS then (1). BAD: machine, letter, side.", """
        quotient(0,0,0)=-2 made:1/2/122,012,210=0 quotient(0,3,0)=-2 quotient(0,-1,0)=-2 quotient(0,3,1)=-2
        quotient(0,-1,1)=-2 quotient(0,0,2)=-2 quotient(0,0,-1)=-2 quotient(0,MAX,0)=-2 quotient(0,0,MIN)=-2
        quotient(1,0,0)=-2 quotient(-1,0,1)=-2 quotient(3,0,0)=-2 of(0,1)=1 of(0,2)=2 quotient(0,2,0)=2 quotient(0,2,1)=0
        """);
    test(10, "TURNED: ENDS become all others.", """
        machine(1)=0 turn(0)=1 turn(0)=0 turn(0)=1 machine(4)=1 turn(1)=15 of(1,2)=15 ends(1,5)=15 turn(1)=10 turn(1)=5
        turn(1)=10 machine(3)=2 ends(2,1)=0 turn(2)=6""");
    test(10, "TURNED, truly: ENDS then. BAD.", "turn(0)=-2 machine(2)=0 turn(1)=-2 turn(-1)=-2 turn(3)=-2 turn(MAX)=-2 turn(MIN)=-2");
  }

  // ---- promises 11 to 19: what words do

  /** A cycle, a swap and a collapse of four points do all that can be done to them: 256 elements. */
  private static final String ALL_THAT_CAN_BE_DONE = "made:0/1/110,201,322,030=0 ";
  /** Subword ab: the elements are nothing, a, b, ab, ba; the letter c does nothing. */
  private static final String SUBWORD_AB = "made:0/4/100,121,222=0 ";
  /** a and b side by side: here no word but the empty one does nothing. */
  private static final String SIDE_BY_SIDE_AB = "made:0/4/100,120,222=0 ";
  /** The first letter is a: the elements are nothing, a, b (or c). */
  private static final String FIRST_LETTER_A = "made:0/2/122,111,222=0 ";
  /** The last letter is a: the elements are nothing, a, b (or c). */
  private static final String LAST_LETTER_A = "made:0/2/100,100=0 ";
  /** a, aa, aaa are three different elements, b does nothing, c as much as a. */
  private static final String THREE_A = "made:0/8/101,212,323,333=0 ";
  /** A cycle of four by a; b and c do nothing. */
  private static final String CYCLE_OF_FOUR = "made:0/1/100,211,322,033=0 ";
  /** a swaps two points, b leads to the first, c to the second: just aa, aaaa, .. and such do nothing. */
  private static final String SWAP_AND_ENDS = "made:0/2/101,001=0 ";

  private static void elements() {
    test(11, "How many ELEMENTS. BAD.", "size(0)=-2 machine(4)=0 size(0)=1 size(1)=-2 size(-1)=-2 size(3)=-2 size(MAX)=-2 size(MIN)=-2");
    test(11, "all that words do in THE LEAST", """
        made:0/0/123,023,013,012=0 size(0)=1 ends(0,15)=0 size(0)=1 ends(0,1)=15 size(0)=4
        made:0/2/111,111,230,303=1 size(1)=2 machine(1)=2 size(2)=1 ends(2,1)=0 size(2)=1 drop()=2 made:0/1/110,201,322,033=2
        size(2)=24 start(2,3)=0 size(2)=24""");
    test(11, "How many ELEMENTS.", ALL_THAT_CAN_BE_DONE + """
        size(0)=256 word(0,255,-1)=10 word(0,256,-1)=-2 times(0,255,0)=255 times(0,0,255)=255 times(0,256,0)=-2 power(0,255,1)=1
        power(0,256,1)=-2 below(0,255,0,0)=1 below(0,256,0,0)=-2 green(0,0)=41 green(0,1)=15 green(0,2)=15 green(0,3)=4
        green(0,4)=4 green(0,5)=64 green(0,6)=-1 holds(0)=0""");
    for (String moves : new String[] {"110,201,322,030", "123,222,333,222", "031,111,211,132", "320,220,110,303"}) {
      testBy(11, "all that words do in THE LEAST", x -> everyChangeCounts(moves));
    }
    test(12, "how many letters (k NONE), its k-th LETTER (from 0; NONE: it has fewer)", SUBWORD_AB + """
        word(0,0,-1)=0 word(0,0,0)=-1 word(0,0,MAX)=-1 word(0,1,-1)=1 word(0,1,0)=0 word(0,1,1)=-1 word(0,2,0)=1 word(0,3,-1)=2
        word(0,3,0)=0 word(0,3,1)=1 word(0,3,2)=-1 word(0,4,0)=1 word(0,4,1)=0 word(0,4,2)=-1 word(0,4,MAX)=-1""");
    test(12, "BAD: machine, i, k below NONE.", "word(0,0,0)=-2 " + SUBWORD_AB + """
        word(0,4,-1)=2 word(0,5,-1)=-2 word(0,-1,-1)=-2 word(0,0,-2)=-2 word(0,0,MIN)=-2 word(0,MAX,0)=-2 word(0,MIN,0)=-2
        word(1,0,0)=-2 word(-1,0,0)=-2 word(3,0,0)=-2""");
    test(12, "numbered in the order of the least words that do it: 0 is that of the empty word", """
        made:0/2/120,111,222=0 size(0)=3 word(0,1,0)=0 word(0,2,0)=1 made:0/4/001,112,220=1 size(1)=3 word(1,1,-1)=1 word(1,1,0)=2
        word(1,2,-1)=2 word(1,2,0)=2 word(1,2,1)=2 word(1,3,0)=-2""");
    test(13, "Which ELEMENT a WORD does. BAD.", "element(0,0)=-2 " + SUBWORD_AB + """
        element(0,0)=0 element(0,3)=0 element(0,333333333)=0 element(0,333333331)=1 element(0,133333332)=3
        element(0,233333331)=4 element(0,1111111111)=-2 element(0,4)=-2 element(0,10)=-2 element(0,-1)=-2 element(0,MAX)=-2
        element(0,MIN)=-2 element(1,0)=-2 element(-1,0)=-2 element(3,0)=-2""");
    test(14, "TIMES. BAD: machine, i, j.", "times(0,0,0)=-2 " + SUBWORD_AB + """
        times(0,0,0)=0 times(0,4,4)=3 times(0,0,4)=4 times(0,4,0)=4 times(0,5,0)=-2 times(0,0,5)=-2 times(0,-1,0)=-2
        times(0,0,-1)=-2 times(0,MAX,0)=-2 times(0,0,MIN)=-2 times(1,0,0)=-2 times(-1,0,0)=-2 times(3,0,0)=-2""");
    test(14, "what the word of i with that of j behind it does", SUBWORD_AB + "times(0,1,2)=3 times(0,2,1)=4 times(0,1,4)=3 times(0,4,1)=4");
  }

  /** What was found of a machine must not be told of it any more when it has become another one. */
  private static void everyChangeCounts(String moves) {
    for (int at = 0; at < 12; at++) {
      int place = at + at / 3;
      for (char to = '0'; to < '4'; to++) {
        String changed = moves.substring(0, place) + to + moves.substring(place + 1);
        changeCounts("0/5/" + moves, "step(0," + at / 3 + "," + at % 3 + "," + to + ")=" + moves.charAt(place), "0/5/" + changed);
      }
    }
    for (int start = 0; start < 4; start++) {
      changeCounts("1/9/" + moves, "start(0," + start + ")=1", start + "/9/" + moves);
      changeCounts("0/9/" + moves, "start(0," + start + ")=0", start + "/9/" + moves);
      changeCounts("0/2/120,111,222", "start(0," + start % 3 + ")=0", start % 3 + "/2/120,111,222");
    }
    for (int ends = 0; ends < 16; ends++) {
      changeCounts("0/6/" + moves, "ends(0," + ends + ")=6", "0/" + ends + "/" + moves);
    }
  }

  private static void changeCounts(String before, String change, String after) {
    WordMonoids x = new WordMonoids();
    runRows(x, "made:" + before + "=0", true);
    whatWordsDo(x);
    runRows(x, change, true);
    WordMonoids y = new WordMonoids();
    runRows(y, "made:" + after + "=0", true);
    if (!whatWordsDo(x).equals(whatWordsDo(y))) {
      fail(before + ", then " + change + " is another one than " + after);
    }
  }

  private static String whatWordsDo(WordMonoids x) {
    StringBuilder s = new StringBuilder();
    for (int what = 0; what < 7; what++) s.append(invoke(x, "green", 0, what)).append(' ');
    for (int word : new int[] {1, 2, 3, 12, 13, 21, 31, 32, 123, 321}) s.append(invoke(x, "element", 0, word)).append(' ');
    return s.append(invoke(x, "size", 0)).append(' ').append(invoke(x, "holds", 0)).append(' ').append(invoke(x, "of", 0, 3)).toString();
  }

  private static void powers() {
    test(15, "INDEX: the least n, 1 or more, such that the n-th is come to again", THREE_A + """
        size(0)=4 power(0,0,0)=1 power(0,1,0)=3 power(0,2,0)=2 power(0,3,0)=1 made:0/8/123,222,333,222=1 power(1,1,0)=2
        power(1,0,0)=1""");
    test(15, "PERIOD: behind how many more first", CYCLE_OF_FOUR + """
        size(0)=4 power(0,0,1)=1 power(0,1,1)=4 power(0,2,1)=2 power(0,3,1)=4 power(0,1,0)=1
        made:0/8/101,212,323,131=1 power(1,1,0)=1 power(1,1,1)=3 drop()=1 made:0/8/101,212,323,232=1 power(1,1,1)=2 power(1,1,0)=2""");
    test(15, "OMEGA of i: that one of i, i times i, .. which times itself is itself.", THREE_A + """
        power(0,0,2)=0 power(0,1,2)=3 power(0,2,2)=3 power(0,3,2)=3 drop()=0 made:0/1/100,211,322,033=0 power(0,1,2)=0
        power(0,2,2)=0 power(0,3,2)=0""");
    test(15, "POWERS of i: INDEX (what 0), PERIOD (1), OMEGA (2). BAD: machine, i, what.", "power(0,0,0)=-2 " + SUBWORD_AB + """
        power(0,4,0)=2 power(0,4,1)=1 power(0,4,2)=3 power(0,4,3)=-2 power(0,4,-1)=-2 power(0,5,0)=-2 power(0,-1,0)=-2
        power(0,MAX,0)=-2 power(0,0,MIN)=-2 power(1,0,0)=-2 power(-1,0,0)=-2 power(3,0,0)=-2""");
    test(16, "0: it is j times some ELEMENT; 1: some ELEMENT times j; 2: some ELEMENT times j times some ELEMENT", SUBWORD_AB + """
        below(0,3,1,0)=1 below(0,4,1,0)=0 below(0,4,1,1)=1 below(0,4,2,0)=1 below(0,4,2,1)=0 below(0,4,1,2)=1 below(0,4,2,2)=1
        below(0,1,3,2)=0 below(0,0,1,2)=0 below(0,1,2,2)=0 drop()=0
        made:0/2/120,111,222=0 below(0,1,2,0)=0 below(0,1,2,1)=1 below(0,1,2,2)=1 below(0,2,1,0)=0 below(0,2,1,1)=1""");
    test(16, "FROM: whether i comes from j: 1, 0. BAD: machine, i, j, side.", "below(0,0,0,0)=-2 " + SUBWORD_AB + """
        below(0,0,0,0)=1 below(0,0,0,1)=1 below(0,0,0,2)=1 below(0,4,4,0)=1 below(0,4,4,1)=1 below(0,4,4,2)=1 below(0,4,0,0)=1
        below(0,5,0,0)=-2 below(0,-1,0,0)=-2 below(0,0,5,0)=-2 below(0,0,-1,0)=-2 below(0,0,0,3)=-2 below(0,0,0,-1)=-2
        below(0,MAX,0,0)=-2 below(0,0,MIN,0)=-2 below(0,0,0,MAX)=-2 below(1,0,0,0)=-2 below(-1,0,0,0)=-2 below(3,0,0,0)=-2""");
    test(16, "some ELEMENT times j times some ELEMENT", CYCLE_OF_FOUR + "below(0,0,3,0)=1 below(0,0,1,1)=1 below(0,2,3,2)=1");
  }

  private static void greens() {
    test(17, "the greatest PERIOD (4), how many TAKEN (5), ZERO (6; NONE). BAD: machine, what.", "green(0,0)=-2 " + SUBWORD_AB + """
        green(0,0)=4 green(0,1)=5 green(0,2)=5 green(0,3)=5 green(0,4)=1 green(0,5)=1 green(0,6)=3 green(0,7)=-2 green(0,-1)=-2
        green(0,MAX)=-2 green(0,MIN)=-2 green(1,0)=-2 green(-1,0)=-2 green(3,0)=-2""");
    test(17, "How many IDEMPOTENTS (what 0), CLASSES by SIDE 0, 1, 2 (1, 2, 3)", SWAP_AND_ENDS + """
        green(0,0)=3 green(0,1)=2 green(0,2)=3 green(0,3)=2 green(0,4)=2 green(0,5)=2 green(0,6)=-1 machine(1)=1 green(1,0)=1
        green(1,1)=1 green(1,2)=1 green(1,3)=1 green(1,4)=1 green(1,5)=0""");
    test(17, "those that come from one another are of one", CYCLE_OF_FOUR + """
        green(0,0)=1 green(0,1)=1 green(0,2)=1 green(0,3)=1 green(0,4)=4 green(0,5)=1 drop()=0
        made:0/2/122,111,222=0 green(0,0)=3 green(0,1)=3 green(0,2)=2 green(0,3)=2 drop()=0
        made:0/2/100,100=0 green(0,0)=3 green(0,1)=2 green(0,2)=3 green(0,3)=2""");
    test(17, "ZERO: an ELEMENT which, times any and any times it, is itself.", """
        machine(1)=0 green(0,6)=0 made:0/2/100,111=1 green(1,6)=1 made:0/2/100,100=2 green(2,6)=-1 drop()=2
        made:0/2/122,111,222=2 green(2,6)=-1""");
    test(17, "TAKEN: one whose words are taken.", """
        machine(2)=0 green(0,5)=0 turn(0)=3 green(0,5)=1 made:0/1/100,111=1 green(1,5)=1 turn(1)=2 green(1,5)=1 ends(1,3)=2
        green(1,5)=1 made:1/1/100,111=2 green(2,5)=0""");
  }

  private static void laws() {
    test(18, "LAWS (bits 0 .. 11) that hold. BAD.", "holds(0)=-2 machine(1)=0 holds(0)=4095 holds(1)=-2 holds(-1)=-2 holds(3)=-2 "
        + "holds(MAX)=-2 holds(MIN)=-2 drop()=0 " + ALL_THAT_CAN_BE_DONE + "holds(0)=0");
    test(18, "0: OMEGA of i times i is OMEGA of i.", CYCLE_OF_FOUR + "wrong(0,0,0)=1 wrong(0,0,1)=-1 holds(0)=2054 drop()=0 "
        + THREE_A + "wrong(0,0,0)=-1 holds(0)=2165");
    test(18, "1: i is 0, or no IDEMPOTENT.", CYCLE_OF_FOUR + "wrong(0,1,0)=-1 drop()=0 " + THREE_A + "wrong(0,1,0)=3 wrong(0,1,1)=-1");
    test(18, "2: i times j is j times i.", SUBWORD_AB + "wrong(0,2,0)=1 wrong(0,2,1)=2 drop()=0 " + CYCLE_OF_FOUR + "wrong(0,2,0)=-1 wrong(0,2,1)=-1");
    test(18, "3: i is an IDEMPOTENT.", SUBWORD_AB + "wrong(0,3,0)=4 wrong(0,3,1)=-1 drop()=0 " + FIRST_LETTER_A + "wrong(0,3,0)=-1 wrong(0,3,1)=-1");
    test(18, "4: E times i is E.", LAST_LETTER_A + "wrong(0,4,0)=1 wrong(0,4,1)=2 drop()=0 " + FIRST_LETTER_A + "wrong(0,4,0)=-1 wrong(0,4,1)=-1");
    test(18, "5: j times E is E.", FIRST_LETTER_A + "wrong(0,5,0)=1 wrong(0,5,1)=2 drop()=0 " + LAST_LETTER_A + "wrong(0,5,0)=-1 wrong(0,5,1)=-1");
    test(18, "6: both of these.", FIRST_LETTER_A + "wrong(0,6,0)=1 wrong(0,6,1)=2 drop()=0 " + LAST_LETTER_A + "wrong(0,6,0)=1 wrong(0,6,1)=2 drop()=0 "
        + THREE_A + "wrong(0,6,0)=-1 drop()=0 " + SUBWORD_AB + "wrong(0,6,0)=-1");
    test(18, "7: i is no TIE; or x, that is i times j times i, is an IDEMPOTENT, and x times y is y times x for each y that is i times some ELEMENT times i.",
        SUBWORD_AB + "wrong(0,7,0)=0 wrong(0,7,1)=1 drop()=0 " + THREE_A + "wrong(0,7,0)=0 wrong(0,7,1)=1 drop()=0 " + FIRST_LETTER_A
        + "wrong(0,7,0)=-1 drop()=0 made:0/8/123,333,333,333=0 wrong(0,7,0)=-1 drop()=0 made:0/2/120,111,222=0 wrong(0,7,0)=0 wrong(0,7,1)=1 drop()=0 "
        + SIDE_BY_SIDE_AB + "wrong(0,7,0)=-1 wrong(0,10,0)=1 wrong(0,10,1)=2");
    test(18, "8: i is no TIE, or j times i is i.", FIRST_LETTER_A + "wrong(0,8,0)=1 wrong(0,8,1)=2 drop()=0 " + LAST_LETTER_A
        + "wrong(0,8,0)=-1 drop()=0 " + SUBWORD_AB + "wrong(0,8,0)=0 wrong(0,8,1)=1");
    test(18, "9: i is no TIE, or i times j is i.", LAST_LETTER_A + "wrong(0,9,0)=1 wrong(0,9,1)=2 drop()=0 " + FIRST_LETTER_A
        + "wrong(0,9,0)=-1 drop()=0 " + SUBWORD_AB + "wrong(0,9,0)=0 wrong(0,9,1)=1");
    test(18, "10: i is no TIE, or i times j times i is i.", SUBWORD_AB + "wrong(0,10,0)=0 wrong(0,10,1)=1 drop()=0 " + LAST_LETTER_A
        + "wrong(0,10,0)=-1 drop()=0 " + FIRST_LETTER_A + "wrong(0,10,0)=-1 drop()=0 made:0/8/123,333,333,333=0 wrong(0,10,0)=-1");
    test(18, "11: E times F times E is E.", CYCLE_OF_FOUR + "wrong(0,11,0)=-1 drop()=0 made:0/1/122,202,222=0 wrong(0,11,0)=1 wrong(0,11,1)=2 drop()=0 "
        + SUBWORD_AB + "wrong(0,11,0)=-1");
    test(18, "A TIE: an IDEMPOTENT that some word does that isn't empty.", SWAP_AND_ENDS + """
        wrong(0,10,0)=0 wrong(0,10,1)=1 wrong(0,8,0)=0 wrong(0,9,0)=0 step(0,0,0,0)=1 wrong(0,10,0)=-1 wrong(0,8,0)=-1
        wrong(0,9,0)=1""");
    test(19, "WRONG of a LAW: i (what 0; NONE: it holds), j (1; NONE also of a LAW by i alone). BAD: machine, law, what.",
        "wrong(0,0,0)=-2 " + SUBWORD_AB + """
        wrong(0,11,0)=-1 wrong(0,11,1)=-1 wrong(0,12,0)=-2 wrong(0,-1,0)=-2 wrong(0,0,2)=-2 wrong(0,0,-1)=-2 wrong(0,MAX,0)=-2
        wrong(0,MIN,0)=-2 wrong(0,0,MAX)=-2 wrong(0,0,MIN)=-2 wrong(1,0,0)=-2 wrong(-1,0,0)=-2 wrong(3,0,0)=-2""");
    test(19, "by all ELEMENTS i (0, 1, 3) or by all i, j", ALL_THAT_CAN_BE_DONE + """
        wrong(0,0,0)=1 wrong(0,0,1)=-1 wrong(0,1,0)=3 wrong(0,1,1)=-1 wrong(0,3,0)=1 wrong(0,3,1)=-1 wrong(0,2,0)=1 wrong(0,2,1)=2
        wrong(0,4,0)=1 wrong(0,4,1)=0""");
    test(19, "WRONG: the first i, then j, by which it isn't so.", LAST_LETTER_A + """
        wrong(0,2,0)=1 wrong(0,2,1)=2 wrong(0,4,0)=1 wrong(0,4,1)=2 wrong(0,1,0)=1 drop()=0
        """ + THREE_A + "wrong(0,7,0)=0 wrong(0,7,1)=1 wrong(0,8,0)=0 wrong(0,8,1)=1 wrong(0,3,0)=1");
  }

  // ---- promises 20 to 22: what must be known

  private static void levels() {
    test(20, "LEVEL by a KIND (0, 1); NONE. BAD.", "level(0,0)=-2 " + SUBWORD_AB + """
        level(0,0)=2 level(0,1)=-1 level(0,2)=-2 level(0,-1)=-2 level(0,MAX)=-2 level(0,MIN)=-2 level(1,0)=-2 level(-1,0)=-2
        level(3,0)=-2""");
    test(20, "LEVEL 0: nothing.", "made:0/0/123,023,013,012=0 level(0,0)=0 level(0,1)=0 turn(0)=15 level(0,0)=0 level(0,1)=0 "
        + "made:0/2/000,111=1 level(1,0)=0 level(1,1)=0");
    test(20, "LEVEL 1: which LETTERS are in it.", """
        made:0/1/111,111=0 level(0,0)=1 level(0,1)=1 made:0/8/120,131,322,333=1 level(1,0)=1 level(1,1)=1 ends(1,9)=8 level(1,0)=1
        made:0/1/001,111=2 level(2,0)=1 level(2,1)=1""");
    test(20, "which twos of LETTERS (also alike ones) are in it one behind the other, others between or not", """
        made:0/4/100,211,222=0 level(0,0)=2 level(0,1)=-1 made:0/8/100,211,322,333=1 level(1,0)=-1 level(1,1)=-1
        made:0/4/001,112,222=2 level(2,0)=2 drop()=2 made:0/4/001,121,222=2 level(2,0)=2""");
    test(20, "its first LETTER, its last one (of the empty word none), which twos stand in it side by side", """
        made:0/2/122,111,222=0 level(0,0)=-1 level(0,1)=2 made:0/2/100,100=1 level(1,0)=-1 level(1,1)=2
        made:0/4/100,200,222=2 level(2,0)=-1 level(2,1)=2 drop()=2 made:0/4/100,120,222=2 level(2,0)=-1 level(2,1)=2
        drop()=2 made:0/8/010,020,030,333=2 level(2,1)=-1""");
    for (int letter = 0; letter < 3; letter++) {
      String moves = "222".substring(0, letter) + "1" + "222".substring(letter + 1);
      test(20, "(of the empty word none)", ("made:0/2/{M},{M},{M}=0 level(0,1)=2 level(0,0)=-1 ends(0,5)=2 level(0,1)=2 "
          + "made:0/2/{M},111,222=1 level(1,1)=2 ends(1,5)=2 level(1,1)=2").replace("{M}", moves));
    }
    for (int two = 0; two < 9; two++) {
      test(20, "which twos stand in it side by side", sideBySide(two) + "level(0,1)=2 level(0,0)=-1 turn(0)=3 level(0,1)=2 level(0,0)=-1");
      test(20, "which twos of LETTERS (also alike ones) are in it one behind the other", oneBehind(two) + "level(0,0)=2 level(0,1)=-1 turn(0)=3 level(0,0)=2 level(0,1)=-1");
    }
    test(20, "never one is taken and the other not (words of any length)", "made:0/13/031,111,211,132=0 level(0,1)=-1 "
        + "made:0/1/031,111,011,332=1 level(1,0)=-1");
    test(21, "SEPARATES by a KIND (0, 1); NONE. BAD: machine, other, kind.", "separates(0,0,0)=-2 machine(1)=0 separates(0,1,0)=-2 "
        + "separates(1,0,0)=-2 separates(0,0,0)=0 separates(0,0,1)=0 separates(0,0,2)=-2 separates(0,0,-1)=-2 separates(-1,0,0)=-2 "
        + "separates(0,-1,0)=-2 separates(3,0,0)=-2 separates(0,3,0)=-2 separates(0,MAX,0)=-2 separates(MIN,0,0)=-2 separates(0,0,MAX)=-2");
    test(21, "by which of no word that the one takes the same is KNOWN as of some word that the other takes", """
        machine(1)=0 machine(1)=1 separates(0,1,0)=0 turn(0)=1 separates(0,1,1)=0 separates(1,0,1)=0 turn(1)=1 separates(0,1,0)=-1
        separates(0,0,0)=-1 separates(0,0,1)=-1 turn(0)=0 separates(0,1,0)=0 separates(0,0,0)=0""");
    test(21, "SEPARATES: the least LEVEL (0 .. 2)", """
        made:0/2/100,111=0 made:0/2/010,111=1 separates(0,1,0)=-1 ends(1,1)=2 separates(0,1,0)=-1 ends(0,1)=2 separates(0,1,0)=-1
        drop()=1 made:0/1/100,111=1 separates(0,1,0)=-1 ends(0,2)=1 separates(0,1,0)=1 separates(0,1,1)=1 separates(1,0,1)=1
        drop()=1 drop()=0 made:0/2/120,111,222=0 made:0/4/120,111,222=1 separates(0,1,0)=-1 separates(0,1,1)=-1
        drop()=1 drop()=0 made:0/2/122,111,222=0 made:0/4/122,111,222=1 separates(0,1,0)=-1 separates(0,1,1)=2 separates(1,0,1)=2
        made:0/2/100,211,222=2 drop()=2 drop()=1 drop()=0 made:0/2/100,211,222=0 made:0/4/100,211,222=1 separates(0,1,0)=2
        separates(0,1,1)=-1""");
    test(21, "(words of any length)", """
        made:0/4/331,332,003,333=0 made:0/8/212,320,010,022=1 separates(0,1,0)=-1 separates(1,0,0)=-1""");
    // of these two the same is known just of words in which all nine twos stand side by side
    test(21, "which twos stand in it side by side", """
        made:0/1/311,111,133,302=0 made:0/4/122,233,301,333=1 separates(0,1,1)=-1 separates(1,0,1)=-1""");
    test(21, "(words of any length)", """
        made:0/2/032,101,133,333=0 made:0/4/320,220,110,303=1 separates(0,1,1)=-1 separates(1,0,1)=-1""");
  }

  /** The two letters of a two, by threes, stand side by side. */
  private static String sideBySide(int two) {
    int first = two / 3;
    int second = two % 3;
    char[][] moves = {{'0', '0', '0'}, {'0', '0', '0'}, {'2', '2', '2'}};
    moves[0][first] = '1';
    moves[1][first] = '1';
    moves[1][second] = '2';
    return "made:0/4/" + new String(moves[0]) + "," + new String(moves[1]) + ",222=0 ";
  }

  private static String oneBehind(int two) {
    char[][] moves = {{'0', '0', '0'}, {'1', '1', '1'}};
    moves[0][two / 3] = '1';
    moves[1][two % 3] = '2';
    return "made:0/4/" + new String(moves[0]) + "," + new String(moves[1]) + ",222=0 ";
  }

  private static void leastWords() {
    test(22, "that both take (what 0), just one takes (1), the one takes and the other doesn't (2); NONE. BAD: machine, other, what.", """
        least(0,0,0)=-2 machine(1)=0 least(0,0,0)=-1 least(0,0,1)=-1 least(0,0,2)=-1 least(0,0,3)=-2 least(0,0,-1)=-2
        least(0,0,MAX)=-2 least(0,0,MIN)=-2 least(1,0,0)=-2 least(0,1,0)=-2 least(-1,0,0)=-2 least(0,-1,0)=-2 least(3,0,0)=-2
        least(0,3,0)=-2 turn(0)=1 least(0,0,0)=0 least(0,0,1)=-1 least(0,0,2)=-1 machine(2)=1 least(0,1,0)=-1 least(0,1,1)=0
        least(1,0,1)=0 least(0,1,2)=0 least(1,0,2)=-1""");
    test(22, "The least word (of any length; told likewise)", """
        made:0/8/330,220,211,010=0 made:0/4/330,102,110,020=1 least(0,1,0)=121211222311212 least(1,0,0)=121211222311212
        drop()=1 drop()=0 made:0/8/100,200,300,000=0 made:0/4/100,200,000=1 least(0,1,0)=11111111111 least(0,1,1)=11 least(0,1,2)=111
        least(1,0,2)=11""");
    test(22, "if one comes from START, letter by letter, to one of ENDS", """
        made:3/4/122,032,111,013=0 made:2/2/121,001,212=1 least(0,1,0)=12 least(1,0,0)=12 least(0,1,1)=2 least(0,1,2)=13
        least(1,0,2)=2 start(0,2)=3 start(1,1)=2 least(0,1,0)=0 least(0,1,1)=3""");
    test(22, "shorter ones ahead, of one length by their numbers", """
        made:0/2/023,010,121,333=0 machine(1)=1 least(0,1,1)=21 least(0,1,2)=21 least(1,0,2)=-1 ends(0,8)=2 least(0,1,1)=3
        ends(0,10)=8 least(0,1,1)=3 turn(1)=1 least(0,1,0)=3 least(1,0,2)=0 least(0,1,1)=0 ends(0,4)=10 least(0,1,0)=2""");
  }

  // ---- promises 23 to 27: formulas

  private static final String SIXTY_BYTES = "#abc&#abc&#abc&#abc&#abc&#abc&#abc&#abc&#abc&#abc&#abc&#abca";

  private static void tapes() {
    test(23, "THE TAPE, which is empty then (by a FAULT, too), is a FORMULA more (4 at most): its number", """
        read:e=0 count(2)=0 read:%2=1 read:x=-100 count(2)=0 count(1)=2 read:^a=2 count(1)=3 read:$a=3 count(1)=4 count(2)=0
        says(0,0)=1 says(1,11)=1 says(2,13)=1 says(3,31)=1""");
    test(23, "FULL (ahead of the FAULT; then THE TAPE stays).", """
        read:e=0 read:e=1 read:e=2 read:e=3 formula()=-4 read:x=-4 count(2)=1 formula()=-4 count(2)=1 read:e=-4 count(2)=2
        count(1)=4""");
    test(23, "-100 less the place of its FAULT", "read:x=-100 read:e)=-101 read:(e|~abc&x)=-108 read:~abc|=-105 formula()=-100");
    test(23, "(60 bytes at most; no blanks)", "read:" + SIXTY_BYTES.substring(0, 59) + "=0 says(0,123)=1 says(0,132)=0 read:"
        + SIXTY_BYTES + "=-159 read:" + SIXTY_BYTES.substring(0, 54) + "|~abcc=-159 read:" + SIXTY_BYTES.substring(0, 54)
        + "|~ab&e=1 says(1,123)=1 says(1,132)=0 read:" + SIXTY_BYTES.substring(0, 55) + "!!!!!=-160 causes:0,55,56,57,58,59,60 "
        + "read:^b&!~a=2 says(2,23)=1 says(2,123)=0 says(0,123)=1");
    test(23, "(60 bytes at most; no blanks)", "read:!e" + "|e".repeat(29) + "=0 says(0,0)=1 says(0,1)=1 read:!e" + "&e".repeat(29)
        + "=1 says(1,0)=0 says(1,1)=0 read:e" + "&!e|e".repeat(11) + "|#a=2 says(2,0)=1 says(2,2)=0 says(2,1)=1 says(0,2)=1");
    test(23, "(60 bytes at most; no blanks)", "read:_e=-100 read:e_=-101 read:e_&e=-101 read:e&_e=-102 read:~_a=-101 read:~a_=-102 "
        + "read:%_2=-101 read:(_e)=-101 read:!_e=-101");
    test(23, "(the tape's size, if it ends too early)", """
        formula()=-100 read:!=-101 read:(=-101 read:~=-101 read:%=-101 read:^=-101 read:$=-101 read:#=-101 read:e&=-102 read:e|=-102
        read:(e=-102 read:(~abc=-105 read:((e)=-104 read:!(!=-103""");
    test(23, "the place of the first byte with which no FORMULA goes on", """
        read:)=-100 read:&=-100 read:|=-100 read:a=-100 read:2=-100 read:ee=-101 read:e!=-101 read:e(e)=-101 read:(e)(=-103
        read:()=-101 read:e&&e=-102 read:e|&e=-102 read:!)=-101 read:(e))=-103 read:e%2=-101 read:E=-100""");
  }

  private static void atoms() {
    test(23, "% and a digit 2 .. 5", "read:%1=-101 read:%0=-101 read:%6=-101 read:%9=-101 read:%a=-101 read:%22=-102 read:%2=0 read:%5=1 "
        + "read:%3|%4=2 says(0,11)=1 says(0,111)=0 says(1,11111)=1 says(1,1111)=0 says(2,111)=1 says(2,11)=0");
    test(23, "LETTERS (1 .. 3 of a, b, c, as many as stand there)", """
        read:^=-101 read:^d=-101 read:^`=-101 read:^A=-101 read:^ad=-102 read:^a=0 read:$abcc=-104 read:#abcabc=-104 read:$bca=1
        read:~e=-101 read:~abe=-103 read:#cc=2 read:~abc=3 says(0,1)=1 says(1,231)=1 says(2,33)=1 says(3,123)=1""");
    test(23, "of a ( or ! while 6 of these are open (a ( till its ), a ! till what it belongs to ends) its own place", """
        read:!!!!!!e=0 read:!!!!!!!e=-106 read:((((((e))))))=1 read:(((((((e)))))))=-106 read:((((((!e))))))=-106
        read:!(!(!(!e)))=-106 read:!!!!!!(e)=-106 read:!(!(!(e)))&!(!(!(e)))=2 read:(((((!e&!e|!e)))))=3""");
    test(23, "a ! till what it belongs to ends", """
        read:!!!!!!e&!!!!!!e=0 read:!!!!!!~a|!!!!!!!e=-115 causes:0,9,10,11,12,13,14,15 read:!!!!!(e&!e)=-108
        causes:0,0,1,2,3,4,5,8 read:!!!!(e&!e)&!!!!!!e=1""");
    test(25, "e: the word is empty", "read:e=0 says(0,0)=1 says(0,1)=0 says(0,111111111)=0");
    test(25, "it has a multiple of so many letters (0, too)", """
        read:%2=0 read:%3=1 read:%4=2 read:%5=3 says(0,0)=1 says(1,0)=1 says(2,0)=1 says(3,0)=1 says(0,1)=0 says(1,123)=1
        says(2,12312312)=1 says(2,123123123)=0 says(1,123123123)=1 says(3,12312)=1 says(3,123123123)=0 says(2,12)=0""");
    test(25, "it begins with them; ends with them", """
        read:^abc=0 read:$abc=1 says(0,0)=0 says(1,0)=0 says(0,12)=0 says(1,23)=0 says(0,123)=1 says(1,123)=1 says(0,1233)=1
        says(0,3123)=0 says(1,3123)=1 says(1,1233)=0 says(0,123333333)=1 says(1,333333123)=1 says(0,333333123)=0
        says(1,123333333)=0""");
    test(25, "has them side by side; has them one behind the other, others between or not", """
        read:#aba=0 read:~aba=1 says(0,0)=0 says(1,0)=0 says(0,12)=0 says(1,12)=0 says(0,121)=1 says(1,121)=1 says(0,1231)=0
        says(1,1231)=1 says(0,333333121)=1 says(0,121333333)=1 says(1,133323331)=1 says(1,133333332)=0 says(1,112)=0
        says(0,121121121)=1 read:~aa=2 says(2,1)=0 says(2,31)=0 says(2,11)=1 says(2,133333331)=1 read:#aa=3 says(3,1)=0
        says(3,333333311)=1""");
    test(25, "! not; & both; | one or both", """
        read:!~a=0 read:~a&~b=1 read:~a|~b=2 read:!~a&~b|~c=3 says(0,0)=1 says(0,1)=0 says(1,1)=0 says(1,2)=0 says(1,12)=1 says(2,1)=1
        says(2,2)=1 says(2,12)=1 says(2,3)=0 says(3,2)=1 says(3,12)=0 says(3,123)=1 says(3,0)=0""");
    test(25, "EITHER: BOTH { | BOTH }. BOTH: ONE { & ONE }. ONE: ! ONE; ( EITHER ); ATOM.", """
        read:!e&(~a&~b)=0 read:~a&(~b|~c)&(e|(~a&(%2|%3)))=1 read:!(~a|!(~b|!(~c|e)))=2 read:~a|~b&~c|!(~a|(~b|~c))=3 says(0,12)=1
        says(0,1)=0 says(0,2)=0 says(1,12)=1 says(1,1)=0 says(1,1112)=1 says(1,11113)=0 says(1,23)=0 says(2,0)=0 says(2,1)=0
        says(2,2)=1 says(2,3)=0 says(2,32)=1 says(3,0)=1 says(3,1)=1 says(3,2)=0 says(3,3)=0 says(3,23)=1 says(3,123)=1""");
    test(25, "EITHER: BOTH { | BOTH }. BOTH: ONE { & ONE }. ONE: ! ONE; ( EITHER ); ATOM.", """
        read:!(e&(!e&(!e&(e))))=0 read:(((((e)|^b)&!$c)|#cc)&!%4)=1 read:e|(e|(e|(e|(e|(^a)))))=2 read:!^a&(!^b&(!e&(!$a&($c))))=3
        says(0,0)=1 says(0,1)=1 says(1,0)=0 says(1,2)=1 says(1,23)=0 says(1,233)=1 says(1,2331)=0 says(2,1)=1 says(2,0)=1 says(2,2)=0
        says(3,3)=1 says(3,13)=0 says(3,23)=0 says(3,31)=0 says(3,32)=0 says(3,0)=0""");
    test(25, "Whether a FORMULA says so of a WORD: 1, 0. BAD.", """
        says(0,0)=-2 read:e=0 says(0,0)=1 says(1,0)=-2 says(-1,0)=-2 says(4,0)=-2 says(MAX,0)=-2 says(MIN,0)=-2 says(0,4)=-2
        says(0,10)=-2 says(0,-1)=-2 says(0,1111111111)=-2 says(0,MAX)=-2 says(0,MIN)=-2 says(0,333333333)=0 read:e=1 read:e=2
        read:!e=3 says(3,0)=0 says(4,0)=-2""");
  }

  private static void faults() {
    test(24, "None, if there was no FAULT yet, or a FORMULA has come since.", """
        why(-1)=0 why(0)=-1 why(7)=-1 read:e=0 why(-1)=0 why(0)=-1 read:(=-101 causes:0,0,1 read:e=1 why(-1)=0 why(0)=-1
        why(1)=-1 read:x=-100 causes:0,0""");
    test(24, "CAUSES: how many (i NONE), the i-th (from 0; NONE: there are fewer).", """
        read:!(x=-102 why(-1)=4 why(0)=0 why(1)=0 why(2)=1 why(3)=2 why(4)=-1 why(MAX)=-1""");
    test(24, "BAD: i below NONE.", "why(-2)=-2 why(MIN)=-2 read:x=-100 why(-2)=-2 why(-1)=2 why(MIN)=-2");
    test(24, "CAUSES of the latest FORMULA that had a FAULT: 0, that of the FORMULA", """
        formula()=-100 causes:0,0 read:(((=-103 causes:0,0,1,2,3 read:ex=-101 causes:0,1 read:e=0 read:e=1 read:e=2
        read:!x=-101 causes:0,0,1""");
    test(24, "or a FORMULA has come since", """
        read:e=0 read:e=1 read:e=2 read:(x=-101 why(-1)=3 read:e=3 why(-1)=0 read:x=-4 why(-1)=0 formula()=-4 why(-1)=0
        why(0)=-1""");
    test(24, "then the places of all ( and ! that are open at the FAULT, from the outermost in; then the FAULT", """
        read:e|x=-102 causes:0,2 read:(e)&(x=-105 causes:0,4,5 read:!e&(!(e)|!x=-110 causes:0,3,9,10 read:!~=-102 causes:0,0,2
        read:!~a)=-103 causes:0,3 read:(!~a=-104 causes:0,0,4 read:(!%2x=-104 causes:0,0,4 read:!(e)x=-104 causes:0,4
        read:!!!!!!x=-106 causes:0,0,1,2,3,4,5,6 read:!!!!!!(=-106 causes:0,0,1,2,3,4,5,6 read:!!!!!!~=-107
        causes:0,0,1,2,3,4,5,7""");
  }

  private static void manyAndAgree() {
    test(26, "How many words of n letters (0 .. 9) a MACHINE (sort 0), a FORMULA (1) takes. BAD: sort, number, n.", """
        many(0,0,0)=-2 many(1,0,0)=-2 machine(1)=0 read:!e=0 many(0,0,0)=0 many(0,0,9)=0 turn(0)=1 many(0,0,0)=1 many(0,0,1)=3
        many(0,0,9)=19683 many(1,0,0)=0 many(1,0,1)=3 many(1,0,9)=19683 many(0,0,10)=-2 many(1,0,10)=-2 many(0,0,-1)=-2
        many(1,0,-1)=-2 many(0,0,MAX)=-2 many(0,0,MIN)=-2 many(2,0,0)=-2 many(-1,0,0)=-2 many(MAX,0,0)=-2 many(0,1,0)=-2
        many(1,1,0)=-2 many(0,-1,0)=-2 many(1,-1,0)=-2 many(0,3,0)=-2 many(1,4,0)=-2 many(0,MIN,0)=-2""");
    test(26, "How many words of n letters (0 .. 9)", """
        made:0/2/100,100=0 read:^ccc&$ccc=0 read:#ccc=1 read:^a&$c&%4=2 many(0,0,0)=0 many(0,0,1)=1 many(0,0,9)=6561 many(1,0,2)=0
        many(1,0,3)=1 many(1,0,4)=1 many(1,0,5)=1 many(1,0,6)=1 many(1,0,9)=27 many(1,2,4)=9 many(1,2,8)=729 many(1,2,9)=0
        many(1,1,3)=1 many(1,1,4)=5""");
    test(27, "The first WORD of n letters (0 .. 5) at most of which a MACHINE and a FORMULA say otherwise; NONE.", """
        machine(1)=0 read:%5&!~a&!~b&!e=0 agree(0,0,4)=-1 agree(0,0,5)=33333 agree(0,0,0)=-1 turn(0)=1 agree(0,0,0)=0 agree(0,0,5)=0
        turn(0)=0 read:^c&$c=1 agree(0,1,0)=-1 agree(0,1,1)=3 agree(0,1,5)=3 read:~ca=2 agree(0,2,1)=-1 agree(0,2,2)=31
        read:%3&!e|#cb=3 agree(0,3,5)=32 agree(0,3,2)=32 agree(0,3,1)=-1""");
    test(27, "BAD: machine, formula, n.", """
        agree(0,0,0)=-2 machine(1)=0 agree(0,0,0)=-2 read:e=0 agree(0,0,0)=0 agree(0,0,6)=-2 agree(0,0,-1)=-2 agree(0,0,MAX)=-2
        agree(0,0,MIN)=-2 agree(1,0,0)=-2 agree(-1,0,0)=-2 agree(3,0,0)=-2 agree(0,1,0)=-2 agree(0,-1,0)=-2 agree(0,4,0)=-2
        agree(MAX,0,0)=-2 agree(0,MIN,0)=-2""");
  }

  // ---- promises 28 to 32: lots, what was told

  private static int lot(int z) {
    return z * 1103515245 + 12345;
  }

  private static final int[] SEEDS = {0, 1, -1, 7, 12345, Integer.MAX_VALUE, Integer.MIN_VALUE, Integer.MAX_VALUE - 19, -20};

  /** The machine's point is the last letter, so that the element tells the last letter drawn. */
  private static void makeLastLetter(WordMonoids x, int ends) {
    x.machine(4);
    for (int at = 0; at < 12; at++) {
      x.step(0, at / 3, at % 3, at % 3 + 1);
    }
    x.ends(0, ends);
  }

  private static void lots() {
    for (int seed : SEEDS) {
      testBy(28, "for each z becomes z * 1103515245 + 12345 (an int; SEED at first): LETTER (z >>> 9) % 3 comes behind", x -> {
        // a and b are told apart from c and from each other by a machine that takes a, and not the empty word
        makeLastLetter(x, 0b0110);
        x.step(0, 1, 0, 3);
        WordMonoids y = new WordMonoids();
        makeLastLetter(y, 0b0110);
        y.step(0, 1, 0, 3);
        int z = seed;
        long word = 0;
        for (int n = 0; n < 10; n++) {
          due("drawn " + seed + ", " + n, x.drawn(0, seed, n), y.element(0, (int) word));
          z = lot(z);
          word = word * 10 + (z >>> 9) % 3 + 1;
        }
      });
      testBy(28, "n letters (0 .. 99)", x -> {
        x.machine(2);
        x.step(0, 0, 0, 1);
        x.step(0, 1, 0, 0);
        x.ends(0, 1);
        int z = seed;
        int evens = 0;
        for (int n = 0; n < 100; n++) {
          due("drawn " + seed + ", " + n, x.drawn(0, seed, n), evens);
          z = lot(z);
          evens = (z >>> 9) % 3 == 0 ? 1 - evens : evens;
        }
        due("drawn of 100", x.drawn(0, seed, 100), -2);
      });
      testBy(29, "SEED and each 1 more (an int): of these those by which the word is taken", x -> {
        makeLastLetter(x, 0b0010);
        for (int m = 1; m <= 20; m++) {
          int taken = 0;
          for (int k = 0; k < m; k++) {
            taken += (lot(lot(seed + k)) >>> 9) % 3 == 0 ? 1 : 0;
          }
          int common = java.math.BigInteger.valueOf(taken).gcd(java.math.BigInteger.valueOf(m)).intValue();
          due("chance above " + seed + ", " + m, x.chance(0, seed, m, 2, 0), taken / common);
          due("chance below " + seed + ", " + m, x.chance(0, seed, m, 2, 1), m / common);
        }
      });
    }
    test(28, "Which ELEMENT a word does that is DRAWN, n letters (0 .. 99). BAD: machine, n.", "drawn(0,0,0)=-2 " + SUBWORD_AB + """
        drawn(0,5,0)=0 drawn(0,MIN,0)=0 drawn(0,MAX,99)=3 drawn(0,0,100)=-2 drawn(0,0,-1)=-2 drawn(0,0,MAX)=-2 drawn(0,0,MIN)=-2
        drawn(1,0,0)=-2 drawn(-1,0,0)=-2 drawn(3,0,0)=-2""");
    test(29, "IN m seeds (1 .. 20)", """
        made:0/2/111,000=0 chance(0,7,1,1,0)=1 chance(0,7,1,1,1)=1 chance(0,7,20,99,0)=1 chance(0,7,20,98,0)=0 chance(0,7,20,98,1)=1
        chance(0,7,0,1,0)=-2 chance(0,7,0,1,1)=-2 chance(0,7,21,1,0)=-2 chance(0,7,21,1,1)=-2""");
    test(29, "IN m seeds, n letters (0 .. 99) each: part 0 above, 1 below the line, in lowest terms (0 by 1). BAD: machine, m, n, part.", """
        chance(0,0,1,0,0)=-2 machine(1)=0 chance(0,0,1,0,0)=0 chance(0,0,1,0,1)=1 chance(0,0,20,99,0)=0 chance(0,0,20,99,1)=1
        chance(0,MAX,12,99,1)=1 turn(0)=1 chance(0,0,20,0,0)=1 chance(0,0,20,99,1)=1 chance(0,0,0,0,0)=-2 chance(0,0,21,0,0)=-2
        chance(0,0,-1,0,0)=-2 chance(0,0,MIN,0,0)=-2 chance(0,0,MAX,0,0)=-2 chance(0,0,1,100,0)=-2 chance(0,0,1,-1,0)=-2
        chance(0,0,1,MAX,0)=-2 chance(0,0,1,0,2)=-2 chance(0,0,1,0,-1)=-2 chance(0,0,1,0,MIN)=-2 chance(1,0,1,0,0)=-2
        chance(-1,0,1,0,0)=-2 chance(3,0,1,0,0)=-2""");
  }

  private static void told() {
    test(30, "one alone at the end doesn't count", """
        machine(1)=0 read:!e=0 sheet(0,1,0)=1 tells(0,0,0)=-1 tells(0,1,0)=-1 sheet(0,1,1)=1 put:0:4 tells(0,0,0)=-1 tells(0,1,0)=-1
        sheet(0,1,2)=1 put:0:4 tells(0,0,0)=0 sheet(0,1,3)=1 put:0:0,0,7 tells(0,0,0)=-1 put:0:0,1,7 tells(0,0,0)=0 sheet(0,0,39)=1
        put(0,38,5)=1 tells(0,0,0)=-1 sheet(0,0,40)=1 put(0,38,5)=1 tells(0,0,0)=19 tells(0,1,0)=19""");
    test(30, "the first two (from 0) by which it is otherwise (also one that tells no WORD, or neither 1 nor 0); NONE.", """
        made:0/2/100,100=0 read:$a=0 sheet(0,1,8)=1 put:0:1,1,12,0,21,1,3,0 tells(0,0,0)=-1 tells(0,1,0)=-1 put(0,7,1)=1
        tells(0,0,0)=3 tells(0,1,0)=3 put(0,5,0)=1 tells(0,0,0)=2 put(0,3,2)=1 tells(0,0,0)=1 tells(0,1,0)=1 put(0,3,-1)=1
        tells(0,0,0)=1 put(0,3,MIN)=1 tells(0,0,0)=1 put(0,1,3)=1 tells(0,0,0)=0 put(0,1,1)=1 put(0,0,4)=1 tells(0,0,0)=0
        put(0,1,0)=1 tells(0,0,0)=0 tells(0,1,0)=0 put(0,0,-1)=1 tells(0,0,0)=0 put(0,0,1111111111)=1 tells(0,0,0)=0 put(0,1,1)=1
        tells(0,0,0)=0 put(0,0,333333331)=1 tells(0,0,0)=1 put(0,0,10)=1 tells(0,1,0)=0""");
    test(30, "BAD: SHEET, sort, number; -11.", """
        tells(0,0,0)=-2 machine(1)=0 tells(0,0,0)=-11 tells(3,0,0)=-11 tells(4,0,0)=-2 tells(-1,0,0)=-2 tells(MAX,0,0)=-2
        tells(MIN,0,0)=-2 tells(0,1,0)=-2 tells(0,2,0)=-2 tells(0,-1,0)=-2 tells(0,0,1)=-2 tells(0,0,-1)=-2 tells(0,0,3)=-2
        sheet(0,1,2)=1 tells(0,0,0)=-1 tells(0,1,0)=-2 tells(0,2,0)=-2 tells(0,0,1)=-2 read:!e=0 tells(0,1,0)=-1 tells(0,1,1)=-2
        tells(0,1,4)=-2 sheet(0,-1,2)=1 tells(0,1,0)=-11""");
    test(31, "A SHEET truly becomes n ints (0 .. 40)", """
        machine(1)=0 ends(0,1)=0 film(0,0,0,0)=0 put(0,0,1)=-12 film(0,0,0,1)=1 put(0,0,1)=1 put(0,1,1)=-12 film(3,0,0,40)=40
        put(3,39,1)=1 put(3,40,1)=-12 sheet(1,0,5)=1 film(1,0,0,2)=2 load(1,0,0,0)=-13 put(1,2,1)=-12 film(0,0,0,41)=-2
        film(0,0,0,-1)=-2 film(0,0,0,MAX)=-2 film(0,0,0,MIN)=-2""");
    test(31, "BAD: SHEET, sort, number, n.", """
        film(0,0,0,1)=-2 machine(1)=0 turn(0)=1 film(4,0,0,1)=-2 film(-1,0,0,1)=-2 film(MAX,0,0,1)=-2 film(0,1,0,1)=-2
        film(0,2,0,1)=-2 film(0,-1,0,1)=-2 film(0,0,1,1)=-2 film(0,0,-1,1)=-2 film(0,0,3,1)=-2 put(0,0,1)=-11 read:e=0
        film(0,1,1,1)=-2 film(0,1,4,1)=-2 film(0,1,0,1)=1""");
    test(31, "the first WORDS of 5 letters at most that a MACHINE (sort 0), a FORMULA (1) takes, in order, as many as there are, then 0: how many came", """
        made:0/8/333,333,333,333=0 read:%5&!e&$ccc=0 ends(0,1)=8 film(0,1,0,40)=9 read:^acc&$ccc&%5=1 read:^ccc&$ccc&%5=2 read:e=3
        sheet(1,1,2)=1 put:1:0,1 copy(0,2,1,0,1)=1 tells(1,1,1)=-1 copy(0,8,1,0,1)=1 tells(1,1,2)=-1 copy(0,9,1,0,1)=1
        tells(1,1,3)=-1 copy(0,39,1,0,1)=1 tells(1,1,3)=-1 film(0,1,0,9)=9 film(0,1,0,3)=3 copy(0,2,1,0,1)=1 tells(1,1,1)=-1
        film(0,0,0,40)=1 copy(0,0,1,0,1)=1 tells(1,0,0)=-1 ends(0,0)=1 film(0,0,0,40)=0 film(0,0,0,0)=0 ends(0,15)=0
        film(0,0,0,40)=40 read:e=-4""");
    test(31, "shorter ones ahead, of one length by their numbers", """
        machine(1)=0 turn(0)=1 film(0,0,0,40)=40 sheet(1,1,8)=1 copy(0,1,1,0,1)=1 copy(0,4,1,2,1)=1 copy(0,12,1,4,1)=1
        copy(0,39,1,6,1)=1 put(1,1,1)=1 put(1,3,1)=1 put(1,5,1)=1 put(1,7,1)=1 read:^a&$a&!#aa|^aa&$aa|^cc&$cc|^ccc&$ccc=0 tells(1,1,0)=-1
        read:!^a=1 tells(1,1,1)=0 read:!#aa=2 tells(1,1,2)=1 read:!#ccc&!^cc|^ccc=3 tells(1,1,3)=2""");
  }

  private static void feeds() {
    test(32, "n bytes (1 .. 5), a, b, .. (all 0 .. 255, also those that are not asked), come behind THE TAPE: how many it has.", """
        feed(1,0,0,0,0,0)=1 feed(5,255,255,255,255,255)=6 feed(0,1,1,1,1,1)=-2 feed(6,1,1,1,1,1)=-2 feed(-1,1,1,1,1,1)=-2
        feed(MAX,1,1,1,1,1)=-2 feed(MIN,1,1,1,1,1)=-2 feed(1,256,0,0,0,0)=-2 feed(1,-1,0,0,0,0)=-2 feed(1,0,256,0,0,0)=-2
        feed(1,0,-1,0,0,0)=-2 feed(1,0,0,256,0,0)=-2 feed(1,0,0,-1,0,0)=-2 feed(1,0,0,0,256,0)=-2 feed(1,0,0,0,-1,0)=-2
        feed(1,0,0,0,0,256)=-2 feed(1,0,0,0,0,-1)=-2 feed(5,0,0,0,0,256)=-2 feed(5,MIN,0,0,0,0)=-2 feed(1,0,0,0,0,MAX)=-2
        count(2)=6 feed(2,9,9,0,0,0)=8 feed(3,9,9,9,0,0)=11 feed(4,9,9,9,9,0)=15""");
    test(32, "come behind THE TAPE", """
        feed(1,94,0,0,0,0)=1 feed(3,97,98,99,38,38)=4 feed(2,38,36,1,1,1)=6 feed(5,97,98,99,38,35)=11 feed(4,97,98,99,97,97)=15
        formula()=-114 feed(4,94,97,98,99,38)=4 feed(5,38,36,99,98,97)=9 formula()=0 says(0,123321)=1 says(0,321123)=0""");
    test(32, "BAD; FULL: not all of the n have room (none comes).", """
        feed(5,1,1,1,1,1)=5 feed(5,1,1,1,1,1)=10 feed(5,1,1,1,1,1)=15 feed(5,1,1,1,1,1)=20 feed(5,1,1,1,1,1)=25 feed(5,1,1,1,1,1)=30
        feed(5,1,1,1,1,1)=35 feed(5,1,1,1,1,1)=40 feed(5,1,1,1,1,1)=45 feed(5,1,1,1,1,1)=50 feed(5,1,1,1,1,1)=55 feed(1,1,1,1,1,1)=56
        feed(5,1,1,1,1,1)=-4 count(2)=56 feed(5,1,1,1,1,256)=-2 feed(6,1,1,1,1,1)=-2 feed(4,1,1,1,1,1)=60 feed(1,1,1,1,1,1)=-4
        feed(5,1,1,1,1,1)=-4 feed(0,1,1,1,1,1)=-2 feed(1,-1,1,1,1,1)=-2 count(2)=60 formula()=-100 count(2)=0 feed(1,1,1,1,1,1)=1""");
  }

  // ---- promises 33 to 39: the image, the host

  private static void images() {
    test(33, "AN IMAGE is kept: how many MACHINES.", """
        image()=0 machine(1)=0 image()=1 machine(2)=1 image()=2 machine(3)=2 image()=3 drop()=2 image()=2 drop()=1 drop()=0
        back()=2 of(0,0)=1 of(1,0)=2""");
    test(33, "AN IMAGE keeps MACHINES.", """
        made:2/5/012,210,111=0 image()=1 ends(0,2)=5 start(0,0)=2 step(0,0,0,2)=0 drop()=0 machine(4)=0 back()=1 of(0,0)=3 of(0,1)=2
        of(0,2)=5 moves:0:012,210,111""");
    test(34, "STATE: there is none.", "back()=-3 machine(1)=0 back()=-3 count(0)=1 image()=1 back()=1 back()=1");
    test(34, "MACHINES are as in THE IMAGE", """
        image()=0 machine(1)=0 machine(1)=1 machine(1)=2 back()=0 of(0,0)=-2 drop()=-3 machine(4)=0 machine(3)=1 machine(2)=2
        image()=3 drop()=2 drop()=1 drop()=0 back()=3 of(0,0)=4 of(1,0)=3 of(2,0)=2 machine(1)=-4 turn(0)=15 step(1,2,2,0)=2
        start(2,1)=0 back()=3 of(0,2)=0 of(1,18)=2 of(2,1)=0 turn(2)=3 image()=3 turn(2)=0 back()=3 of(2,2)=3""");
    test(34, "(FORMULAS, THE TAPE, CAUSES, SHEETS stay)", """
        machine(1)=0 image()=1 read:e=0 read:!x=-101 feed(3,101,38,101,0,0)=3 sheet(2,1,4)=1 put:2:3,2,1,0 back()=1 count(1)=1
        causes:0,0,1 count(2)=3 formula()=1 says(0,0)=1 put(2,3,1)=1 machine(4)=1 load(2,1,0,1)=-12 of(1,10)=3 of(1,11)=2 of(1,12)=1
        of(1,13)=1 of(1,14)=1""");
  }

  private static void loads() {
    test(35, "from one on three for each POINT, by POINTS, then LETTERS: how many came", """
        machine(4)=0 sheet(0,0,40)=1 put:0:9,1,2,3,0,2,3,3,1,0,2,2,1 load(0,0,1,0)=12 moves:0:123,023,310,221 machine(1)=1 sheet(1,1,3)=1
        load(1,1,0,1)=3 put:1:1,2,3 load(1,1,0,1)=0 load(0,0,28,0)=12 moves:0:000,000,000,000 load(0,0,29,0)=-12""");
    test(35, "(one that is no POINT of it is left out; the next one is for the next LETTER)", """
        machine(2)=0 sheet(0,1,6)=1 put:0:1,2,1,-1,0,MAX load(0,1,0,0)=3 moves:0:101,101 put:0:MIN,4,3,65536,9,2 load(0,1,0,0)=0
        moves:0:101,101 sheet(1,0,6)=1 put:1:65536,32768,65537,-1,98304,131073 load(1,0,0,0)=3 moves:0:001,101""");
    test(35, "BAD: no such SHEET, sort, machine; -11 (missing, of whatever sort it is taken for); -13", """
        load(0,0,0,0)=-2 machine(2)=0 load(0,0,0,0)=-11 load(0,1,0,0)=-11 load(0,0,-1,0)=-11 load(0,1,99,0)=-11 load(0,2,0,0)=-2
        load(0,-1,0,0)=-2 load(0,MAX,0,0)=-2 load(4,0,0,0)=-2 load(-1,0,0,0)=-2 load(0,0,0,1)=-2 load(0,0,0,-1)=-2 load(0,0,0,3)=-2
        sheet(0,0,6)=1 put:0:1,1,1,0,0,0 load(0,1,0,0)=-13 load(0,1,-1,0)=-13 load(0,1,99,0)=-13 load(0,2,0,0)=-2 load(0,1,0,1)=-2
        sheet(1,1,6)=1 load(1,0,0,0)=-13 load(1,0,6,0)=-13 moves:0:000,111 sheet(0,-1,6)=1 load(0,0,0,0)=-11""");
    test(35, "-12: what stood ahead came", """
        machine(2)=0 sheet(0,0,5)=1 put:0:1,1,1,0,0 load(0,0,0,0)=-12 moves:0:111,001 sheet(0,0,6)=1 load(0,0,1,0)=-12 moves:0:000,001
        put(0,5,1)=1 load(0,0,5,0)=-12 moves:0:100,001 load(0,0,6,0)=-12 load(0,0,-1,0)=-12 load(0,0,MAX,0)=-12 load(0,0,MIN,0)=-12
        moves:0:100,001 load(0,0,0,0)=6 moves:0:000,001 sheet(0,0,0)=1 load(0,0,0,0)=-12 moves:0:000,001 sheet(0,1,2)=1
        put:0:7,1 load(0,1,0,0)=-12 moves:0:010,001""");
  }

  private static void sheets() {
    test(36, "How many: 0 MACHINES, 1 FORMULAS, 2 bytes of THE TAPE, 3 POINTS of all MACHINES. BAD.", """
        count(0)=0 count(1)=0 count(2)=0 count(3)=0 count(-1)=-2 count(4)=-2 count(MAX)=-2 count(MIN)=-2 machine(4)=0 machine(4)=1
        machine(4)=2 count(0)=3 count(3)=12 read:e=0 count(1)=1 feed(2,1,1,0,0,0)=2 count(2)=2 drop()=2 count(3)=8""");
    test(37, "SHEETS 0 .. 3 are rows of numbers", """
        sheet(0,0,1)=1 sheet(1,1,2)=1 sheet(2,0,3)=1 sheet(3,1,4)=1 sheet(4,0,1)=-2 sheet(-1,0,1)=-2 sheet(MAX,0,1)=-2 sheet(MIN,0,1)=-2
        put(0,0,1)=1 put(0,1,1)=-12 put(1,1,1)=1 put(1,2,1)=-12 put(2,2,1)=1 put(2,3,1)=-12 put(3,3,1)=1 put(3,4,1)=-12""");
    test(37, "-11 it is missing, -12 a place outside, -13 a thing of another sort, -14 a size below 0", """
        put(0,0,0)=-11 sheet(0,0,1)=1 put(0,1,0)=-12 sheet(1,1,1)=1 copy(0,0,1,0,1)=-13 sheet(2,0,-1)=-14 sheet(0,1,-1)=-14
        put(0,0,1)=1 put(2,0,0)=-11""");
    test(37, "of sort 0 shorts, 1 ints", """
        machine(1)=0 sheet(0,0,3)=1 sheet(1,1,3)=1 put:0:65536,-65536,131072 put:1:65536,-65536,131072 load(0,0,0,0)=3
        load(1,1,0,0)=0 load(0,1,0,0)=-13 load(1,0,0,0)=-13""");
    test(37, "BAD: no such SHEET, sort; n above 40; -14.", """
        sheet(0,0,0)=1 put(0,0,1)=-12 sheet(0,0,40)=1 put(0,39,1)=1 put(0,40,1)=-12 sheet(0,0,41)=-2 sheet(0,1,41)=-2 sheet(0,0,-1)=-14
        sheet(0,1,-1)=-14 sheet(0,1,MIN)=-14 sheet(0,0,MAX)=-2 sheet(0,2,1)=-2 sheet(0,-2,1)=-2 sheet(0,MAX,1)=-2 sheet(0,MIN,1)=-2
        sheet(4,0,-1)=-2 sheet(0,2,-1)=-2 sheet(0,-2,-1)=-2 sheet(4,-1,0)=-2 put(0,39,1)=1 sheet(1,1,41)=-2 sheet(1,1,-1)=-14
        put(1,0,0)=-11""");
    test(37, "or missing (sort -1: n does not matter): 1", """
        sheet(0,-1,0)=1 sheet(0,0,1)=1 sheet(0,-1,41)=1 put(0,0,1)=-11 sheet(0,0,1)=1 sheet(0,-1,-1)=1 put(0,0,1)=-11 sheet(0,1,1)=1
        sheet(0,-1,MIN)=1 put(0,0,1)=-11 sheet(0,-1,MAX)=1 sheet(3,-1,40)=1""");
    test(37, "A SHEET becomes a row of n of a sort, all 0", """
        machine(4)=0 sheet(0,1,12)=1 put:0:1,1,1,2,2,2,3,3,3,3,3,3 sheet(0,1,12)=1 load(0,1,0,0)=12 moves:0:000,000,000,000
        put:0:1,1,1,2,2,2,3,3,3,3,3,3 sheet(0,-1,0)=1 sheet(0,0,12)=1 load(0,0,0,0)=12 moves:0:000,000,000,000
        put:0:1,1,1,2,2,2,3,3,3,3,3,3 sheet(0,0,3)=1 sheet(0,0,12)=1 load(0,0,0,0)=12 moves:0:000,000,000,000""");
    test(38, "Item i of a SHEET becomes v (of shorts its lowest 16 bits): 1.", """
        machine(4)=0 sheet(0,0,12)=1 put:0:65536,65537,65538,65539,131072,-65535,98304,32767,-1,65535,-32768,MIN load(0,0,0,0)=7
        moves:0:012,301,222,330 sheet(1,1,12)=1 put:1:3,65537,65536,MIN,0,MAX,32768,1,-1,0,0,1 load(1,1,0,0)=6
        moves:0:312,301,212,001 sheet(2,0,2)=1 read:e|!e=0 put:2:32333,1 tells(2,1,0)=-1 put:2:33333,1 tells(2,1,0)=0
        put:2:98859,1 tells(2,1,0)=0 put:2:77869,1 tells(2,1,0)=-1 put:2:77847,1 tells(2,1,0)=-1""");
    test(38, "BAD: no such SHEET; -11; -12.", """
        put(4,0,1)=-2 put(-1,0,1)=-2 put(MAX,0,1)=-2 put(MIN,0,1)=-2 put(0,0,1)=-11 put(0,-1,1)=-11 put(0,99,1)=-11 put(4,-1,1)=-2
        sheet(0,1,3)=1 put(0,3,1)=-12 put(0,-1,1)=-12 put(0,MAX,1)=-12 put(0,MIN,1)=-12 put(0,0,1)=1 put(0,2,1)=1 sheet(3,0,0)=1
        put(3,0,1)=-12""");
  }

  private static void copies() {
    test(39, "n numbers of a SHEET, from item i on, come to another one's item j on (as they were): n.", """
        machine(2)=0 sheet(0,1,6)=1 sheet(1,1,6)=1 put:0:1,0,0,1,1,0 copy(0,0,1,0,6)=6 load(1,1,0,0)=6 moves:0:100,110 put:1:0,0,0,0,0,0
        copy(0,5,1,5,1)=1 copy(0,3,1,1,2)=2 load(1,1,0,0)=6 moves:0:011,000 load(0,1,0,0)=6 moves:0:100,110""");
    test(39, "(as they were)", """
        machine(4)=0 sheet(0,0,12)=1 put:0:0,1,2,3,0,1,2,3,0,0,0,0 copy(0,0,0,1,8)=8 load(0,0,0,0)=12 moves:0:001,230,123,000
        put:0:0,1,2,3,0,1,2,3,0,0,0,0 copy(0,1,0,0,8)=8 load(0,0,0,0)=12 moves:0:123,012,300,000 copy(0,0,0,0,12)=12
        load(0,0,0,0)=12 moves:0:123,012,300,000""");
    test(39, "BAD: no such SHEET; -11; -13: they are of unlike sorts", """
        copy(4,0,0,0,0)=-2 copy(0,0,4,0,0)=-2 copy(-1,0,0,0,0)=-2 copy(0,0,-1,0,0)=-2 copy(0,0,MAX,0,0)=-2 copy(MIN,0,0,0,0)=-2
        copy(0,0,0,0,0)=-11 copy(0,0,1,0,-1)=-11 sheet(0,0,4)=1 copy(0,0,1,0,1)=-11 copy(1,0,0,0,1)=-11 copy(1,-1,0,99,-1)=-11
        sheet(1,1,4)=1 copy(0,0,1,0,1)=-13 copy(1,0,0,0,1)=-13 copy(0,0,1,0,0)=-13 copy(0,-1,1,0,1)=-13 copy(0,0,1,0,-1)=-13
        copy(0,0,1,9,9)=-13 copy(2,0,4,0,0)=-2 copy(0,0,0,0,4)=4""");
    test(39, "-12 (also with n below 0)", """
        sheet(0,1,4)=1 sheet(1,1,6)=1 put:0:1,2,3,1 copy(0,0,1,0,4)=4 copy(0,0,1,0,5)=-12 copy(0,1,1,0,4)=-12 copy(0,1,1,0,3)=3
        copy(0,0,1,2,4)=4 copy(0,0,1,3,4)=-12 copy(1,0,0,0,5)=-12 copy(0,-1,1,0,1)=-12 copy(0,0,1,-1,1)=-12 copy(0,0,1,0,-1)=-12
        copy(0,1,1,1,-1)=-12 copy(0,0,1,0,MIN)=-12 copy(0,0,1,0,MAX)=-12 copy(0,1,1,0,MAX)=-12 copy(0,MAX,1,0,1)=-12
        copy(0,MAX,1,0,MAX)=-12 copy(0,0,1,MAX,1)=-12 copy(0,MIN,1,0,1)=-12 copy(0,0,1,MIN,1)=-12 copy(0,4,1,0,1)=-12
        copy(0,0,1,6,1)=-12 copy(0,0,1,0,0)=0 copy(0,4,1,6,0)=0 copy(0,5,1,0,0)=-12 copy(0,0,1,7,0)=-12 sheet(2,1,0)=1
        copy(2,0,0,0,0)=0 copy(2,0,0,0,1)=-12""");
  }

  private static void everyPromiseHasATest() {
    sentence = "for each such sentence";
    for (promise = 1; promise <= PROMISES; promise++) {
      if (TESTS[promise] == 0) {
        fail("has no test");
      }
    }
  }

  public static void main(String[] args) throws Exception {
    document = Files.readString(Path.of("../shared/DOC.md"));
    for (Method m : WordMonoids.class.getMethods()) {
      METHODS.put(m.getName(), m);
    }
    newObject();
    machines();
    ofMachines();
    quotients();
    elements();
    powers();
    greens();
    laws();
    levels();
    leastWords();
    tapes();
    atoms();
    faults();
    manyAndAgree();
    lots();
    told();
    feeds();
    images();
    loads();
    sheets();
    copies();
    everyPromiseHasATest();
    System.out.println(failures == 0 ? "all " + tests + " boundaries hold" : failures + " answers are not as due");
    if (failures != 0) {
      System.exit(1);
    }
  }
}
