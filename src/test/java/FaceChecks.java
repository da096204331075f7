import java.lang.reflect.Field;
import java.lang.reflect.Member;
import java.lang.reflect.Method;
import java.lang.reflect.Modifier;
import java.nio.file.Files;
import java.nio.file.Path;
import java.util.Arrays;
import java.util.Random;
import java.util.Set;
import java.util.TreeSet;

/** The public face, the rules of LANGUAGE.md that can be looked up, the room, and calls with any numbers. */
public final class FaceChecks {
  private static final String[] FACE = {
    "int machine 1", "int drop 0", "int step 4", "int ends 2", "int start 2", "int of 2", "int takes 2",
    "int quotient 3", "int turn 1", "int size 1", "int word 3", "int element 2", "int times 3", "int power 3",
    "int below 4", "int green 2", "int holds 1", "int wrong 3", "int level 2", "int separates 3", "long least 3",
    "int formula 0", "int why 1", "int says 2", "int many 3", "int agree 3", "int drawn 3", "int chance 5",
    "int tells 3", "int film 4", "int feed 6", "int image 0", "int back 0", "int load 4", "int count 1",
    "int sheet 3", "int put 3", "int copy 5"};
  /** 7.3 million fields and elements are there for all calls of a run: here as if each were a long. */
  private static final long ROOM_BYTES = 7300000L * 8;
  private static final int CALLS_MOST = 512;
  private static int failures = 0;

  private static void fail(String what) {
    failures++;
    System.out.println(what);
  }

  private static boolean isOpen(Member m) {
    return !Modifier.isPrivate(m.getModifiers()) && !m.isSynthetic();
  }

  private static void checkFace() {
    Class<?> c = WordMonoids.class;
    if (!Modifier.isFinal(c.getModifiers()) || !Modifier.isPublic(c.getModifiers())) fail("the class is not public and final");
    Set<String> found = new TreeSet<>();
    Set<String> names = new TreeSet<>();
    for (Method m : c.getDeclaredMethods()) {
      if (isOpen(m)) {
        found.add(m.getReturnType() + " " + m.getName() + " " + m.getParameterCount());
        names.add(m.getName());
        for (Class<?> p : m.getParameterTypes()) if (p != int.class) fail("a parameter of " + m + " is no int");
        if (!Modifier.isPublic(m.getModifiers()) || Modifier.isStatic(m.getModifiers())) fail(m + " is not public or is static");
      }
    }
    if (!found.equals(new TreeSet<>(Arrays.asList(FACE)))) fail("the face is " + found);
    for (Field f : c.getDeclaredFields()) {
      if (isOpen(f) && !Set.of("NONE", "BAD", "STATE", "FULL").contains(f.getName())) fail("open field " + f);
    }
    if (c.getDeclaredConstructors().length != 1 || c.getConstructors().length != 1) fail("constructors");
    for (Method m : c.getDeclaredMethods()) {
      if (!isOpen(m) && names.contains(m.getName())) fail("a private method bears a public name: " + m);
    }
    for (Class<?> inner : c.getDeclaredClasses()) {
      if (!Modifier.isStatic(inner.getModifiers())) fail(inner + " is not static");
      if (inner.getDeclaredFields().length > 40) fail(inner + " has too many fields");
      for (Method m : inner.getDeclaredMethods()) {
        if (!isOpen(m) && !m.isSynthetic() && names.contains(m.getName())) fail("a private method bears a public name: " + m);
      }
    }
    if (c.getDeclaredClasses().length > 12) fail("too many classes");
  }

  private static void checkSource() throws Exception {
    String source = Files.readString(Path.of("src/main/java/WordMonoids.java"));
    String code = source.replaceAll("(?s)/\\*.*?\\*/", " ").replaceAll("//[^\n]*", " ");
    String[] words = {"throw", "try", "catch", "synchronized", "assert", "package", "protected", "::",
      "System.out", "Exact", "String.format"};
    for (String w : words) {
      boolean there = w.matches("\\w+") && !w.equals("Exact") ? code.matches("(?s).*\\b" + w + "\\b.*") : code.contains(w);
      if (there) fail("the program has " + w);
    }
    for (String line : code.split("\n")) {
      if (line.startsWith("import") && !line.matches("import java\\.util\\.(Arrays|ArrayList|List|Iterator);")) fail("the program has " + line);
      if (line.contains("->") && !line.contains("case ") && !line.contains("default ")) fail("a lambda: " + line);
      if (line.contains("static") && line.contains(" = ") && !line.contains("final")) fail("static state: " + line);
    }
    for (char sign : source.toCharArray()) if (sign > 126) fail("a sign above 126");
    checkLengths(source);
  }

  private static void checkLengths(String source) {
    String[] lines = source.split("\n");
    int since = 0;
    for (int k = 0; k < lines.length; k++) {
      if (lines[k].matches(" {4,8}[^ /*].*\\) \\{")) since = k;
      if (lines[k].matches(" {4,8}\\}") && k - since > 60) fail("a long method at line " + since);
    }
  }

  private static long allocated() {
    return ((com.sun.management.ThreadMXBean) java.lang.management.ManagementFactory.getThreadMXBean())
        .getThreadAllocatedBytes(Thread.currentThread().getId());
  }

  private static int any(Random r) {
    int way = r.nextInt(12);
    if (way == 0) return r.nextInt();
    if (way == 1) return r.nextBoolean() ? Integer.MAX_VALUE - r.nextInt(3) : Integer.MIN_VALUE + r.nextInt(3);
    if (way == 2) return r.nextInt(400) - 20;
    if (way == 3) return new int[] {123, 321, 111, 22, 3333, 12321, 123123123}[r.nextInt(7)];
    return r.nextInt(6) - 1;
  }

  private static int sign(Random r) {
    return r.nextInt(9) == 0 ? r.nextInt(300) - 20 : "!(()&|e%25^$#~abc".charAt(r.nextInt(17));
  }

  private static long call(WordMonoids x, Random r) {
    int a = any(r), b = any(r), c = any(r), d = any(r), e = any(r);
    switch (r.nextInt(45)) {
      case 0: return x.machine(r.nextInt(6));
      case 1: return r.nextInt(3) == 0 ? x.drop() : 0;
      case 2: return x.step(a, b, c, d);
      case 3: return x.ends(a, r.nextInt(20) - 2);
      case 4: return x.start(a, b);
      case 5: return x.of(a, r.nextInt(26) - 2);
      case 6: return x.takes(a, b);
      case 7: return x.quotient(a, b, c);
      case 8: return x.turn(a);
      case 9: return x.size(a);
      case 10: return x.word(a, b, c);
      case 11: return x.element(a, b);
      case 12: return x.times(a, b, c);
      case 13: return x.power(a, b, c);
      case 14: return x.below(a, b, c, d);
      case 15: return x.green(a, r.nextInt(9) - 1);
      case 16: return x.holds(a);
      case 17: return x.wrong(a, r.nextInt(14) - 1, b);
      case 18: return x.level(a, b);
      case 19: return x.separates(a, b, c);
      case 20: return x.least(a, b, c);
      case 21: return x.formula();
      case 22: return x.why(a);
      case 23: return x.says(a, b);
      case 24: return x.many(a, b, r.nextInt(8) - 1);
      case 25: return x.agree(a, b, c);
      case 26: return x.drawn(a, b, r.nextInt(104) - 2);
      case 27: return x.chance(a, b, r.nextInt(24) - 2, r.nextInt(104) - 2, e);
      case 28: return x.tells(a, b, c);
      case 29: return x.film(a, b, c, r.nextInt(44) - 2);
      case 30: return x.image();
      case 31: return r.nextInt(3) == 0 ? x.back() : 0;
      case 32: return x.load(a, b, c, d);
      case 33: return x.count(a);
      case 34: return x.sheet(a, b, r.nextInt(45) - 3);
      case 35: return x.put(a, b, c);
      case 36: return x.copy(a, b, c, d, e);
      default: return x.feed(r.nextInt(7), sign(r), sign(r), sign(r), sign(r), sign(r));
    }
  }

  /** All that can be asked of the object without changing it. */
  private static String state(WordMonoids x) {
    StringBuilder s = new StringBuilder();
    for (int m = 0; m < 3; m++) for (int what = 0; what < 22; what++) s.append(x.of(m, what)).append(' ');
    for (int what = 0; what < 4; what++) s.append(x.count(what)).append(' ');
    for (int i = -1; i < 9; i++) s.append(x.why(i)).append(' ');
    for (int f = 0; f < 4; f++) for (int n = 0; n < 4; n++) s.append(x.many(1, f, n)).append(' ');
    for (int f = 0; f < 4; f++) for (int t = 0; t < 4; t++) s.append(x.tells(t, 1, f)).append(' ');
    return s.toString();
  }

  private static void checkAnyNumbers() {
    Random r = new Random(7);
    int refusals = 0;
    for (int object = 0; object < 300; object++) {
      WordMonoids x = new WordMonoids();
      if (object % 3 > 0) {
        x.machine(4);
        x.machine(3);
        for (int sheet = 0; sheet < 4; sheet++) x.sheet(sheet, sheet % 2, 40);
      }
      for (int k = 0; k < 200; k++) {
        String before = state(x);
        long got;
        try {
          got = call(x, r);
        } catch (RuntimeException | Error e) {
          fail("a call threw " + e);
          return;
        }
        // of refusals only load's -12 leaves traces, and a fault's -100 and below
        if (got < -1 && got > -15 && got != -12) {
          refusals++;
          if (!state(x).equals(before)) fail("a refusal changed something: " + got);
        }
      }
    }
    if (refusals < 1000) fail("hardly any refusals were tried");
  }

  /** An object and as many calls as it is used for, the dearest ones, stay within the room of one run. */
  private static void checkRoom() {
    Random r = new Random(5);
    WordMonoids warm = new WordMonoids();
    for (int k = 0; k < CALLS_MOST; k++) call(warm, r);
    long before = allocated();
    WordMonoids x = new WordMonoids();
    x.machine(4);
    int[] all = {1, 1, 0, 2, 0, 1, 3, 2, 2, 0, 3, 0};
    for (int at = 0; at < 12; at++) x.step(0, at / 3, at % 3, all[at]);
    x.ends(0, 8);
    x.feed(5, '~', 'a', '|', '!', 'e');
    x.formula();
    long sum = 0;
    int made = 17;
    for (int k = 0; made + 20 <= CALLS_MOST; k++) {
      // another machine each time, so that nothing that was found can be used again
      sum += x.step(0, 3, 2, k % 4) + x.size(0) + x.holds(0) + x.green(0, 3) + x.level(0, k % 2) + x.separates(0, 0, k % 2);
      sum += x.many(1, 0, 9) + x.many(0, 0, 9) + x.agree(0, 0, 5) + x.film(0, 0, 0, 40) + x.tells(0, 0, 0) + x.chance(0, k, 20, 99, 0);
      sum += x.image() + x.back() + x.sheet(1, 0, 40) + x.copy(1, 0, 1, 3, 9) + x.feed(1, '!', 0, 0, 0, 0) + x.formula();
      sum += x.wrong(0, 11, 0) + x.least(0, 0, 0);
      made += 20;
    }
    long bytes = allocated() - before;
    if (bytes > ROOM_BYTES) fail("a run took " + bytes + " bytes (" + sum + ")");
  }

  public static void main(String[] args) throws Exception {
    checkFace();
    checkSource();
    checkAnyNumbers();
    checkRoom();
    System.out.println(failures == 0 ? "the face, the rules and the room are as told" : failures + " faults");
    if (failures != 0) {
      System.exit(1);
    }
  }
}
