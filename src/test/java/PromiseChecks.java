/** For each promise of the document: ordinary inputs, the edges that it names, wrong inputs. */
public final class PromiseChecks {
  private static int failures = 0;
  private static int promise = 0;

  private static void due(String call, long got, long want) {
    if (got != want) {
      failures++;
      System.out.println("promise " + promise + ": " + call + " answered " + got + ", due is " + want);
    }
  }

  private static void feedText(WordMonoids x, String text) {
    for (int k = 0; k < text.length(); k++) {
      x.feed(1, text.charAt(k), 0, 0, 0, 0);
    }
  }

  private static int read(WordMonoids x, String text) {
    feedText(x, text);
    return x.formula();
  }

  /** A machine by its moves, a digit for each letter of each point. */
  private static int make(WordMonoids x, int start, int ends, String... moves) {
    int m = x.machine(moves.length);
    for (int p = 0; p < moves.length; p++) {
      for (int l = 0; l < 3; l++) {
        x.step(m, p, l, moves[p].charAt(l) - '0');
      }
    }
    x.start(m, start);
    x.ends(m, ends);
    return m;
  }

  private static void putAll(WordMonoids x, int sheet, int... values) {
    for (int k = 0; k < values.length; k++) {
      due("put", x.put(sheet, k, values[k]), 1);
    }
  }

  private static void causes(WordMonoids x, String text, int fault, int... want) {
    due("formula " + text, read(x, text), -100 - fault);
    due("why(-1) of " + text, x.why(-1), want.length);
    for (int k = 0; k < want.length; k++) {
      due("why(" + k + ") of " + text, x.why(k), want[k]);
    }
    due("why(behind) of " + text, x.why(want.length), -1);
    due("tape behind " + text, x.count(2), 0);
  }

  private static void p1to6() {
    promise = 1;
    WordMonoids x = new WordMonoids();
    for (int what = 0; what < 4; what++) due("count", x.count(what), 0);
    due("takes", x.takes(0, 0), -2);
    due("back", x.back(), -3);
    due("put", x.put(0, 0, 0), -11);
    promise = 2;
    due("machine(0)", x.machine(0), -2);
    due("machine(5)", x.machine(5), -2);
    due("machine(-1)", x.machine(-1), -2);
    due("machine(4)", x.machine(4), 0);
    due("machine(1)", x.machine(1), 1);
    due("machine(2)", x.machine(2), 2);
    due("machine(2) full", x.machine(2), -4);
    due("machine(5) bad ahead of full", x.machine(5), -2);
    for (int p = 0; p < 4; p++) for (int l = 0; l < 3; l++) due("fresh move", x.of(0, 10 + 3 * p + l), p);
    due("fresh start", x.of(0, 1), 0);
    due("fresh ends", x.of(0, 2), 0);
    promise = 3;
    due("step", x.step(2, 0, 0, 1), 0);
    due("ends", x.ends(2, 3), 0);
    due("start", x.start(2, 1), 0);
    due("drop", x.drop(), 2);
    due("gone", x.of(2, 0), -2);
    due("anew", x.machine(2), 2);
    due("anew move", x.of(2, 10), 0);
    due("anew start", x.of(2, 1), 0);
    due("anew ends", x.of(2, 2), 0);
    due("drop", x.drop(), 2);
    due("drop", x.drop(), 1);
    due("drop", x.drop(), 0);
    due("drop none", x.drop(), -3);
    promise = 4;
    x.machine(3);
    due("step", x.step(0, 1, 2, 2), 1);
    due("step", x.step(0, 1, 2, 0), 2);
    due("of", x.of(0, 10 + 3 + 2), 0);
    due("step machine", x.step(1, 0, 0, 0), -2);
    due("step machine", x.step(-1, 0, 0, 0), -2);
    due("step point", x.step(0, 3, 0, 0), -2);
    due("step point", x.step(0, -1, 0, 0), -2);
    due("step letter", x.step(0, 0, 3, 0), -2);
    due("step letter", x.step(0, 0, -1, 0), -2);
    due("step to", x.step(0, 0, 0, 3), -2);
    due("step to", x.step(0, 0, 0, -1), -2);
    promise = 5;
    due("ends", x.ends(0, 5), 0);
    due("ends", x.ends(0, 7), 5);
    due("ends set", x.ends(0, 8), -2);
    due("ends set", x.ends(0, -1), -2);
    due("ends machine", x.ends(1, 0), -2);
    due("ends kept", x.of(0, 2), 7);
    due("ends none", x.ends(0, 0), 7);
    promise = 6;
    due("start", x.start(0, 2), 0);
    due("start", x.start(0, 1), 2);
    due("start point", x.start(0, 3), -2);
    due("start point", x.start(0, -1), -2);
    due("start machine", x.start(3, 0), -2);
    due("start kept", x.of(0, 1), 1);
  }

  private static void p7to10() {
    promise = 7;
    WordMonoids x = new WordMonoids();
    // points 1 and 3 do the same, 0 isn't come to; START is 2
    make(x, 2, 0b1010, "000", "122", "213", "322");
    due("points", x.of(0, 0), 4);
    due("start", x.of(0, 1), 2);
    due("ends", x.of(0, 2), 10);
    due("least", x.of(0, 3), 2);
    due("least ends", x.of(0, 4), 2);
    for (int what = 5; what < 10; what++) due("what", x.of(0, what), -2);
    due("what", x.of(0, -1), -2);
    due("what", x.of(0, 22), -2);
    due("move", x.of(0, 10 + 3 * 2 + 1), 1);
    due("move", x.of(0, 10 + 3 * 3 + 2), 2);
    due("machine", x.of(1, 0), -2);
    x.machine(2);
    due("move", x.of(1, 15), 1);
    due("what", x.of(1, 16), -2);
    promise = 8;
    due("takes", x.takes(0, 0), 0);
    due("takes", x.takes(0, 2), 1);
    due("takes", x.takes(0, 22), 0);
    due("takes", x.takes(0, 221), 0);
    due("takes", x.takes(0, 321), 0);
    due("takes", x.takes(0, 31), 1);
    due("takes", x.takes(0, 111111113), 1);
    int[] noWords = {-1, 4, 10, 100, 201, 1023, 1111111111, 2111111111, Integer.MIN_VALUE, Integer.MAX_VALUE, 333333330};
    for (int w : noWords) due("takes " + w, x.takes(0, w), -2);
    due("takes machine", x.takes(2, 0), -2);
    promise = 9;
    WordMonoids y = new WordMonoids();
    make(y, 0, 0b100, "100", "120", "222");
    due("quotient left", y.quotient(0, 0, 0), 1);
    due("start", y.of(0, 1), 1);
    due("quotient right", y.quotient(0, 1, 1), 0b110);
    due("ends", y.of(0, 2), 0b110);
    due("quotient right", y.quotient(0, 2, 1), 0b100);
    due("quotient letter", y.quotient(0, 3, 0), -2);
    due("quotient letter", y.quotient(0, -1, 1), -2);
    due("quotient side", y.quotient(0, 0, 2), -2);
    due("quotient side", y.quotient(0, 0, -1), -2);
    due("quotient machine", y.quotient(1, 0, 0), -2);
    promise = 10;
    due("turn", y.turn(0), 0b011);
    due("turn", y.turn(0), 0b100);
    due("turn machine", y.turn(1), -2);
    due("turn machine", y.turn(-1), -2);
  }

  private static void p11to17() {
    promise = 11;
    WordMonoids x = new WordMonoids();
    // words with a and later b
    make(x, 0, 4, "100", "121", "222");
    due("size", x.size(0), 5);
    due("size machine", x.size(1), -2);
    changesAreSeen();
    promise = 12;
    due("word", x.word(0, 0, -1), 0);
    due("word", x.word(0, 3, -1), 2);
    due("word", x.word(0, 3, 0), 0);
    due("word", x.word(0, 3, 1), 1);
    due("word", x.word(0, 3, 2), -1);
    due("word", x.word(0, 4, 0), 1);
    due("word", x.word(0, 4, 1), 0);
    due("word", x.word(0, 4, Integer.MAX_VALUE), -1);
    due("word i", x.word(0, 5, 0), -2);
    due("word i", x.word(0, -1, 0), -2);
    due("word k", x.word(0, 0, -2), -2);
    due("word machine", x.word(1, 0, 0), -2);
    promise = 13;
    due("element", x.element(0, 0), 0);
    due("element", x.element(0, 3), 0);
    due("element", x.element(0, 13), 1);
    due("element", x.element(0, 12), 3);
    due("element", x.element(0, 2311), 4);
    due("element", x.element(0, 212), 3);
    due("element word", x.element(0, 4), -2);
    due("element word", x.element(0, 1111111111), -2);
    due("element machine", x.element(1, 0), -2);
    promise = 14;
    due("times", x.times(0, 1, 2), 3);
    due("times", x.times(0, 2, 1), 4);
    due("times", x.times(0, 4, 4), 3);
    due("times", x.times(0, 0, 4), 4);
    due("times i", x.times(0, 5, 0), -2);
    due("times j", x.times(0, 0, 5), -2);
    due("times j", x.times(0, 0, -1), -2);
    due("times machine", x.times(-1, 0, 0), -2);
    promise = 15;
    due("index", x.power(0, 4, 0), 2);
    due("period", x.power(0, 4, 1), 1);
    due("omega", x.power(0, 4, 2), 3);
    due("power what", x.power(0, 4, 3), -2);
    due("power what", x.power(0, 4, -1), -2);
    due("power i", x.power(0, 5, 0), -2);
    due("power machine", x.power(1, 0, 0), -2);
    make(x, 0, 2, "100", "200", "300", "100");
    // a goes 0, 1, 2, 3, 1, ..
    due("index", x.power(1, 1, 0), 1);
    due("period", x.power(1, 1, 1), 3);
    promise = 16;
    for (int side = 0; side < 3; side++) {
      due("below", x.below(0, 3, 1, side), 1);
      due("below itself", x.below(0, 4, 4, side), 1);
      due("below", x.below(0, 1, 3, side), 0);
    }
    due("below", x.below(0, 4, 1, 0), 0);
    due("below", x.below(0, 4, 1, 1), 1);
    due("below", x.below(0, 4, 2, 0), 1);
    due("below", x.below(0, 4, 2, 1), 0);
    due("below", x.below(0, 4, 2, 2), 1);
    due("below i", x.below(0, 5, 0, 0), -2);
    due("below j", x.below(0, 0, 5, 0), -2);
    due("below side", x.below(0, 0, 0, 3), -2);
    due("below side", x.below(0, 0, 0, -1), -2);
    due("below machine", x.below(2, 0, 0, 0), -2);
    promise = 17;
    int[] want = {4, 5, 5, 5, 1, 1, 3};
    for (int what = 0; what < 7; what++) due("green " + what, x.green(0, what), want[what]);
    due("green what", x.green(0, 7), -2);
    due("green what", x.green(0, -1), -2);
    due("green machine", x.green(2, 0), -2);
  }

  /** What was found of a machine holds no longer, once any part of it has changed. */
  private static void changesAreSeen() {
    WordMonoids x = new WordMonoids();
    make(x, 0, 2, "010", "111");
    due("size", x.size(0), 2);
    x.start(0, 1);
    due("another start", x.size(0), 1);
    x.start(0, 0);
    x.ends(0, 0);
    due("other ends", x.size(0), 1);
    x.ends(0, 2);
    for (int p = 0; p < 2; p++) {
      for (int l = 0; l < 3; l++) {
        int was = x.of(0, 10 + 3 * p + l);
        due("size", x.size(0), 2);
        x.step(0, p, l, 1 - was);
        WordMonoids y = new WordMonoids();
        make(y, 0, 2, moves(x, 0), moves(x, 1));
        for (int what = 0; what < 7; what++) due("another step", x.green(0, what), y.green(0, what));
        for (int letter = 1; letter < 4; letter++) due("another step", x.element(0, letter), y.element(0, letter));
        x.step(0, p, l, was);
      }
    }
  }

  private static String moves(WordMonoids x, int point) {
    return "" + x.of(0, 10 + 3 * point) + x.of(0, 11 + 3 * point) + x.of(0, 12 + 3 * point);
  }

  private static void p18to19() {
    promise = 18;
    WordMonoids x = new WordMonoids();
    make(x, 0, 4, "100", "121", "222");
    due("holds", x.holds(0), 2161);
    due("holds machine", x.holds(1), -2);
    // the first letter is a: what words do is right zero but for the empty one
    make(x, 0, 2, "122", "111", "222");
    // its elements: nothing, a, b: a b = a, b a = b; so 9 holds and 8 does not
    due("holds", x.holds(1), 1 << 0 | 1 << 3 | 1 << 4 | 1 << 7 | 1 << 9 | 1 << 10 | 1 << 11);
    // the last letter is a
    make(x, 0, 2, "100", "100");
    due("holds", x.holds(2), 1 << 0 | 1 << 3 | 1 << 5 | 1 << 7 | 1 << 8 | 1 << 10 | 1 << 11);
    promise = 19;
    due("wrong", x.wrong(2, 4, 0), 1);
    due("wrong", x.wrong(2, 4, 1), 2);
    due("wrong", x.wrong(2, 9, 0), 1);
    due("wrong", x.wrong(2, 9, 1), 2);
    due("wrong", x.wrong(2, 8, 0), -1);
    due("wrong", x.wrong(2, 8, 1), -1);
    due("wrong by i alone", x.wrong(0, 3, 0), 4);
    due("wrong by i alone", x.wrong(0, 3, 1), -1);
    due("wrong 1", x.wrong(0, 1, 0), 1);
    due("wrong 1", x.wrong(0, 1, 1), -1);
    due("wrong 8", x.wrong(0, 8, 0), 0);
    due("wrong 8", x.wrong(0, 8, 1), 1);
    due("wrong law", x.wrong(0, 12, 0), -2);
    due("wrong law", x.wrong(0, -1, 0), -2);
    due("wrong what", x.wrong(0, 0, 2), -2);
    due("wrong what", x.wrong(0, 0, -1), -2);
    due("wrong machine", x.wrong(3, 0, 0), -2);
  }

  private static void p20to22() {
    promise = 20;
    WordMonoids x = new WordMonoids();
    make(x, 0, 4, "100", "121", "222");
    make(x, 0, 2, "100", "111");
    make(x, 0, 4, "100", "120", "222");
    due("subword ab, subwords", x.level(0, 0), 2);
    due("subword ab, neighbours", x.level(0, 1), -1);
    due("has an a", x.level(1, 0), 1);
    due("has an a", x.level(1, 1), 1);
    due("ab side by side, subwords", x.level(2, 0), -1);
    due("ab side by side, neighbours", x.level(2, 1), 2);
    due("level kind", x.level(0, 2), -2);
    due("level kind", x.level(0, -1), -2);
    due("level machine", x.level(3, 0), -2);
    x.ends(1, 3);
    due("all words", x.level(1, 0), 0);
    x.ends(1, 0);
    due("no word", x.level(1, 1), 0);
    x.ends(1, 1);
    promise = 21;
    due("no a, ab behind", x.separates(1, 0, 0), 1);
    due("no a, ab behind", x.separates(1, 0, 1), 1);
    due("with itself", x.separates(0, 0, 0), -1);
    x.ends(1, 0);
    due("takes none", x.separates(1, 0, 1), 0);
    due("takes none, with itself", x.separates(1, 1, 1), 0);
    x.drop();
    x.drop();
    // the last letter is a; it is not (and the word is not empty)
    make(x, 0, 2, "122", "122", "122");
    make(x, 0, 4, "122", "122", "122");
    due("last letter, neighbours", x.separates(1, 2, 1), 2);
    due("last letter, subwords", x.separates(1, 2, 0), -1);
    due("separates kind", x.separates(0, 1, 2), -2);
    due("separates kind", x.separates(0, 1, -1), -2);
    due("separates other", x.separates(0, 3, 0), -2);
    due("separates machine", x.separates(-1, 0, 0), -2);
    promise = 22;
    due("least both", x.least(0, 1, 0), 121);
    due("least just one", x.least(0, 1, 1), 1);
    due("least the one", x.least(0, 1, 2), 12);
    due("least the one", x.least(1, 0, 2), 1);
    due("least none", x.least(1, 2, 0), -1);
    due("least of one", x.least(0, 0, 0), 12);
    due("least of one", x.least(0, 0, 1), -1);
    due("least of one", x.least(0, 0, 2), -1);
    x.turn(1);
    due("least empty", x.least(1, 0, 2), 0);
    due("least what", x.least(0, 1, 3), -2);
    due("least what", x.least(0, 1, -1), -2);
    due("least machine", x.least(3, 0, 0), -2);
    due("least other", x.least(0, 3, 0), -2);
    WordMonoids y = new WordMonoids();
    // a goes round of 4, of 3: longest words
    make(y, 0, 8, "100", "211", "322", "033");
    make(y, 0, 4, "100", "211", "022");
    due("least long", y.least(0, 1, 0), 11111111111L);
  }

  private static void p23to27() {
    promise = 23;
    WordMonoids x = new WordMonoids();
    due("empty tape", x.formula(), -100);
    due("formula", read(x, "~ab"), 0);
    due("tape", x.count(2), 0);
    due("formula", read(x, "(^a&!$b)|%2"), 1);
    due("fault", read(x, "~ab)"), -103);
    due("formula", read(x, "#abc|e"), 2);
    due("formula", read(x, "!!!!!!%5"), 3);
    due("full ahead of fault", read(x, "x"), -4);
    due("tape stays", x.count(2), 1);
    promise = 24;
    due("none by a formula since", x.why(-1), 0);
    due("none by a formula since", x.why(0), -1);
    WordMonoids y = new WordMonoids();
    due("no fault yet", y.why(-1), 0);
    due("no fault yet", y.why(0), -1);
    due("why(-2)", y.why(-2), -2);
    due("why(min)", y.why(Integer.MIN_VALUE), -2);
    causes(y, "", 0, 0, 0);
    causes(y, "x", 0, 0, 0);
    causes(y, "~", 1, 0, 1);
    causes(y, "~d", 1, 0, 1);
    causes(y, "!~", 2, 0, 0, 2);
    causes(y, "!", 1, 0, 0, 1);
    causes(y, "!%6", 2, 0, 0, 2);
    causes(y, "!~ab~", 4, 0, 4);
    causes(y, "!e)", 2, 0, 2);
    causes(y, "!(e", 3, 0, 0, 1, 3);
    causes(y, "!(e)e", 4, 0, 4);
    causes(y, "(!(e)", 5, 0, 0, 5);
    causes(y, "(e&!", 4, 0, 0, 3, 4);
    causes(y, "(e&!)", 4, 0, 0, 3, 4);
    causes(y, "e|", 2, 0, 2);
    causes(y, "e||e", 2, 0, 2);
    causes(y, "()", 1, 0, 0, 1);
    causes(y, "#aaaa", 4, 0, 4);
    causes(y, "e e", 1, 0, 1);
    causes(y, "!(!(!(!", 6, 0, 0, 1, 2, 3, 4, 5, 6);
    causes(y, "((((((!e", 6, 0, 0, 1, 2, 3, 4, 5, 6);
    due("six open ones close again", read(y, "((((((e))))))&!!!!!!e"), 0);
    due("none by a formula", y.why(-1), 0);
    causes(y, "e%", 1, 0, 1);
    due("fault by a byte of above 127", y.feed(2, 'e', 255, 0, 0, 0), 2);
    due("formula", y.formula(), -101);
    promise = 25;
    due("says ~ab", x.says(0, 1132), 1);
    due("says ~ab", x.says(0, 2133), 0);
    due("says either", x.says(1, 113), 1);
    due("says either", x.says(1, 112), 0);
    due("says either", x.says(1, 22), 1);
    due("says either", x.says(1, 0), 1);
    due("says # or e", x.says(2, 0), 1);
    due("says # or e", x.says(2, 31231), 1);
    due("says # or e", x.says(2, 132), 0);
    due("says %5", x.says(3, 12312), 1);
    due("says %5", x.says(3, 1231), 0);
    due("says word", x.says(0, 104), -2);
    due("says word", x.says(0, -5), -2);
    due("says formula", x.says(4, 0), -2);
    due("says formula", x.says(-1, 0), -2);
    WordMonoids z = new WordMonoids();
    due("& binds more", read(z, "e|^a&$a"), 0);
    due("says", z.says(0, 0), 1);
    due("says", z.says(0, 121), 1);
    due("says", z.says(0, 12), 0);
    due("~aa", read(z, "~aa"), 1);
    due("one a is not two", z.says(1, 1), 0);
    due("two are", z.says(1, 131), 1);
    due("ends longer than the word", read(z, "$aab|^aab|#aab"), 2);
    due("says", z.says(2, 12), 0);
    due("says", z.says(2, 112), 1);
    due("says", z.says(2, 311233333), 1);
    promise = 26;
    due("many", x.many(1, 0, 2), 1);
    due("many", x.many(1, 3, 9), 0);
    due("many", x.many(1, 3, 5), 243);
    due("many n", x.many(1, 0, 10), -2);
    due("many n", x.many(1, 0, -1), -2);
    due("many sort", x.many(2, 0, 0), -2);
    due("many sort", x.many(-1, 0, 0), -2);
    due("many number", x.many(1, 4, 0), -2);
    due("many number", x.many(0, 0, 0), -2);
    make(x, 0, 2, "100", "100");
    due("many", x.many(0, 0, 9), 6561);
    due("many", x.many(0, 0, 0), 0);
    promise = 27;
    make(x, 0, 4, "100", "121", "222");
    due("agree", x.agree(1, 0, 5), -1);
    due("agree", x.agree(0, 0, 5), 1);
    due("agree not so far", x.agree(0, 0, 0), -1);
    due("agree", x.agree(1, 2, 5), 0);
    due("agree n", x.agree(0, 0, 6), -2);
    due("agree n", x.agree(0, 0, -1), -2);
    due("agree machine", x.agree(2, 0, 0), -2);
    due("agree formula", x.agree(0, 4, 0), -2);
  }

  private static void p28to29() {
    promise = 28;
    WordMonoids x = new WordMonoids();
    make(x, 0, 2, "100", "100");
    int z = 7;
    int point = 0;
    for (int n = 0; n < 100; n++) {
      due("drawn " + n, x.drawn(0, 7, n), n == 0 ? 0 : point == 1 ? 1 : 2);
      z = z * 1103515245 + 12345;
      point = (z >>> 9) % 3 == 0 ? 1 : 0;
    }
    due("drawn n", x.drawn(0, 7, 100), -2);
    due("drawn n", x.drawn(0, 7, -1), -2);
    due("drawn machine", x.drawn(1, 7, 1), -2);
    promise = 29;
    due("none by 1", x.chance(0, 5, 20, 0, 0), 0);
    due("none by 1", x.chance(0, 5, 20, 0, 1), 1);
    x.ends(0, 3);
    due("all", x.chance(0, -5, 20, 99, 0), 1);
    due("all", x.chance(0, -5, 20, 99, 1), 1);
    x.ends(0, 2);
    int seed = Integer.MAX_VALUE - 1;
    int taken = 0;
    for (int k = 0; k < 12; k++) {
      int y = (seed + k) * 1103515245 + 12345;
      if ((y >>> 9) % 3 == 0) taken++;
    }
    int g = taken;
    while (g > 0 && (taken % g != 0 || 12 % g != 0)) g--;
    due("chance above", x.chance(0, seed, 12, 1, 0), taken / g);
    due("chance below", x.chance(0, seed, 12, 1, 1), 12 / g);
    due("chance m", x.chance(0, 0, 0, 1, 0), -2);
    due("chance m", x.chance(0, 0, 21, 1, 0), -2);
    due("chance n", x.chance(0, 0, 1, 100, 0), -2);
    due("chance n", x.chance(0, 0, 1, -1, 0), -2);
    due("chance part", x.chance(0, 0, 1, 1, 2), -2);
    due("chance part", x.chance(0, 0, 1, 1, -1), -2);
    due("chance machine", x.chance(1, 0, 1, 1, 0), -2);
  }

  private static void p30to32() {
    promise = 30;
    WordMonoids x = new WordMonoids();
    make(x, 0, 2, "100", "100");
    read(x, "$a");
    due("missing", x.tells(0, 0, 0), -11);
    due("bad ahead of missing", x.tells(0, 0, 1), -2);
    x.sheet(0, 1, 7);
    putAll(x, 0, 0, 0, 21, 1, 12, 0, 5);
    for (int sort = 0; sort < 2; sort++) {
      due("one alone doesn't count", x.tells(0, sort, 0), -1);
    }
    x.put(0, 5, 1);
    due("otherwise", x.tells(0, 0, 0), 2);
    due("otherwise", x.tells(0, 1, 0), 2);
    x.put(0, 3, 2);
    due("neither 1 nor 0", x.tells(0, 1, 0), 1);
    x.put(0, 3, -1);
    due("neither 1 nor 0", x.tells(0, 1, 0), 1);
    x.put(0, 1, 2);
    due("neither 1 nor 0, of one that isn't taken", x.tells(0, 0, 0), 0);
    x.put(0, 1, -1);
    due("neither 1 nor 0, of one that isn't taken", x.tells(0, 0, 0), 0);
    x.put(0, 1, 0);
    x.put(0, 0, 4);
    due("no word", x.tells(0, 0, 0), 0);
    x.sheet(1, 0, 2);
    putAll(x, 1, 33331, 1);
    due("a short can't hold it", x.tells(1, 0, 0), 0);
    putAll(x, 1, 65536 + 31, 1);
    due("shorts", x.tells(1, 0, 0), -1);
    x.sheet(1, 0, 0);
    due("empty row", x.tells(1, 0, 0), -1);
    due("sheet", x.tells(4, 0, 0), -2);
    due("sheet", x.tells(-1, 0, 0), -2);
    due("sort", x.tells(0, 2, 0), -2);
    due("number", x.tells(0, 1, 1), -2);
    promise = 31;
    // words of twos, read back by tells: a film tells 12 behind 11, ..
    due("film", x.film(2, 0, 0, 3), 3);
    due("film is of ints", x.load(2, 0, 0, 0), -13);
    due("film holds", x.copy(2, 1, 0, 0, 2), 2);
    x.put(0, 1, 1);
    due("the second is aa", x.tells(0, 0, 0), 1);
    make(x, 0, 1, "111", "111");
    due("just the empty word", x.film(3, 0, 1, 4), 1);
    due("0 behind", x.tells(3, 0, 1), 0);
    due("film of none", x.film(3, 0, 0, 0), 0);
    due("a row of none", x.put(3, 0, 1), -12);
    read(x, "%5&#aaa");
    due("few", x.film(3, 1, 1, 40), 21);
    read(x, "~a&!~a");
    due("none at all", x.film(3, 1, 2, 40), 0);
    due("film n", x.film(3, 1, 1, 41), -2);
    due("film n", x.film(3, 1, 1, -1), -2);
    due("film sheet", x.film(4, 1, 1, 1), -2);
    due("film sort", x.film(3, 2, 1, 1), -2);
    due("film number", x.film(3, 0, 2, 1), -2);
    promise = 32;
    WordMonoids y = new WordMonoids();
    due("feed", y.feed(5, 0, 255, 1, 2, 3), 5);
    due("feed", y.feed(1, 9, 0, 0, 0, 0), 6);
    due("feed n", y.feed(0, 1, 1, 1, 1, 1), -2);
    due("feed n", y.feed(6, 1, 1, 1, 1, 1), -2);
    due("feed not asked", y.feed(1, 1, 1, 1, 1, 256), -2);
    due("feed not asked", y.feed(1, 1, -1, 1, 1, 1), -2);
    due("feed", y.feed(1, 256, 1, 1, 1, 1), -2);
    due("feed", y.feed(3, 1, 1, -1, 1, 1), -2);
    due("feed", y.feed(3, 1, 1, 1, 300, 1), -2);
    for (int k = 0; k < 10; k++) y.feed(5, 1, 1, 1, 1, 1);
    due("not all have room", y.feed(5, 1, 1, 1, 1, 1), -4);
    due("none came", y.count(2), 56);
    due("bad ahead of full", y.feed(5, 1, 1, 1, 1, -1), -2);
    due("the last ones", y.feed(4, 1, 1, 1, 1, 1), 60);
    due("full", y.feed(1, 1, 1, 1, 1, 1), -4);
    WordMonoids z = new WordMonoids();
    due("order", z.feed(5, '~', 'a', 'b', 'c', '&'), 5);
    due("order", z.feed(2, '#', 'b', 0, 0, 0), 7);
    due("order", z.formula(), 0);
    due("order", z.says(0, 123), 1);
    due("order", z.says(0, 321), 0);
  }

  private static void p33to36() {
    promise = 33;
    WordMonoids x = new WordMonoids();
    due("image of none", x.image(), 0);
    due("back to none", x.back(), 0);
    make(x, 1, 3, "100", "010");
    make(x, 0, 1, "000");
    due("image", x.image(), 2);
    promise = 34;
    x.step(0, 0, 0, 0);
    x.start(0, 0);
    x.ends(0, 0);
    x.machine(4);
    x.sheet(0, 1, 3);
    read(x, "e");
    x.feed(1, 'e', 0, 0, 0, 0);
    due("back", x.back(), 2);
    due("as it was", x.of(0, 10), 1);
    due("as it was", x.of(0, 1), 1);
    due("as it was", x.of(0, 2), 3);
    due("none more", x.of(2, 0), -2);
    due("formulas stay", x.count(1), 1);
    due("the tape stays", x.count(2), 1);
    due("sheets stay", x.put(0, 2, 1), 1);
    x.drop();
    x.drop();
    x.machine(3);
    due("back again", x.back(), 2);
    due("as it was", x.of(0, 0), 2);
    x.ends(0, 1);
    due("back again", x.back(), 2);
    due("the image was not touched", x.of(0, 2), 3);
    WordMonoids y = new WordMonoids();
    due("back without image", y.back(), -3);
    due("what is known of a machine is forgotten", size(x), 3);
    promise = 35;
    x.sheet(0, 0, 10);
    putAll(x, 0, 9, 1, 0, 2, 0, -1, 1, 65537, 7, 7);
    due("load", x.load(0, 0, 1, 0), 4);
    int[] want = {1, 0, 0, 0, 1, 1};
    // the third is no point: what it led to stays; nor is the fifth; the sixth is 1
    for (int k = 0; k < 6; k++) due("load " + k, x.of(0, 10 + k), want[k]);
    due("load outside", x.load(0, 0, 6, 0), -12);
    due("what stood ahead came", x.of(0, 10), 1);
    due("what stood ahead came", x.of(0, 11), 1);
    due("all fit", x.load(0, 0, 4, 0), 3);
    due("load outside at once", x.load(0, 0, 10, 0), -12);
    due("load outside below", x.load(0, 0, -1, 0), -12);
    due("load far outside", x.load(0, 0, Integer.MAX_VALUE, 0), -12);
    due("load far outside", x.load(0, 0, Integer.MIN_VALUE, 0), -12);
    due("load unlike", x.load(0, 1, 0, 0), -13);
    due("load unlike ahead of outside", x.load(0, 1, 99, 0), -13);
    due("load missing", x.load(1, 0, 0, 0), -11);
    due("load missing", x.load(1, 1, 99, 0), -11);
    due("load sheet", x.load(4, 0, 0, 0), -2);
    due("load sort", x.load(0, 2, 0, 0), -2);
    due("load sort", x.load(0, -1, 0, 0), -2);
    due("load machine", x.load(0, 0, 0, 2), -2);
    due("bad ahead of missing", x.load(1, 2, 0, 0), -2);
    x.sheet(2, 1, 3);
    putAll(x, 2, 0, 0, 0);
    due("load ints", x.load(2, 1, 0, 1), 3);
    promise = 36;
    x.feed(2, 1, 1, 1, 1, 1);
    due("machines", x.count(0), 2);
    due("formulas", x.count(1), 1);
    due("tape", x.count(2), 3);
    due("points", x.count(3), 3);
    due("count", x.count(4), -2);
    due("count", x.count(-1), -2);
  }

  private static int size(WordMonoids x) {
    x.machine(2);
    x.step(2, 0, 0, 1);
    x.ends(2, 2);
    int before = x.size(2);
    x.step(2, 1, 1, 0);
    int then = x.size(2);
    x.drop();
    return before == 2 ? then : -before;
  }

  private static void p37to39() {
    promise = 37;
    WordMonoids x = new WordMonoids();
    due("sheet", x.sheet(0, 0, 40), 1);
    due("sheet", x.sheet(3, 1, 0), 1);
    due("sheet number", x.sheet(4, 0, 1), -2);
    due("sheet number", x.sheet(-1, 0, 1), -2);
    due("sheet sort", x.sheet(0, 2, 1), -2);
    due("sheet sort", x.sheet(0, -2, 1), -2);
    due("sheet n", x.sheet(0, 0, 41), -2);
    due("sheet n", x.sheet(0, 0, -1), -14);
    due("sheet n", x.sheet(0, 1, Integer.MIN_VALUE), -14);
    due("bad ahead of n", x.sheet(0, 2, -1), -2);
    due("refused, so it stays", x.put(0, 39, 1), 1);
    due("missing, n doesn't matter", x.sheet(0, -1, 99), 1);
    due("missing", x.put(0, 0, 1), -11);
    due("missing, n doesn't matter", x.sheet(1, -1, -99), 1);
    promise = 38;
    make(x, 0, 2, "100", "100");
    x.sheet(0, 0, 2);
    due("put", x.put(0, 0, 0x10000 + 21), 1);
    due("put", x.put(0, 1, 0x70001), 1);
    due("the lowest 16 bits", x.tells(0, 0, 0), -1);
    due("put outside", x.put(0, 2, 1), -12);
    due("put outside", x.put(0, -1, 1), -12);
    due("put missing", x.put(2, 50, 1), -11);
    due("put sheet", x.put(4, 0, 1), -2);
    x.sheet(1, 1, 2);
    x.put(1, 0, 333333331);
    x.put(1, 1, 1);
    due("ints hold all", x.tells(1, 0, 0), -1);
    x.sheet(1, 1, 2);
    due("all 0 again", x.tells(1, 0, 0), -1);
    promise = 39;
    x.sheet(0, 1, 6);
    x.sheet(1, 1, 4);
    putAll(x, 0, 0, 0, 1, 1, 2, 0);
    due("copy", x.copy(0, 2, 1, 0, 4), 4);
    due("copied", x.tells(1, 0, 0), -1);
    x.put(1, 1, 0);
    due("copied, not shared", x.tells(0, 0, 0), -1);
    // within one sheet, as they were
    due("copy over itself", x.copy(0, 2, 0, 0, 4), 4);
    due("as they were", x.tells(0, 0, 0), -1);
    x.sheet(0, 1, 6);
    putAll(x, 0, 1, 1, 2, 0, 9, 9);
    due("copy over itself, on", x.copy(0, 0, 0, 2, 4), 4);
    due("as they were", x.tells(0, 0, 0), -1);
    due("copy none", x.copy(0, 6, 1, 4, 0), 0);
    due("copy outside", x.copy(0, 7, 1, 0, 0), -12);
    due("copy outside", x.copy(0, 0, 1, 5, 0), -12);
    due("copy outside", x.copy(0, 3, 1, 0, 4), -12);
    due("copy outside", x.copy(0, 0, 1, 1, 4), -12);
    due("copy outside", x.copy(0, -1, 1, 0, 1), -12);
    due("copy outside", x.copy(0, 0, 1, -1, 1), -12);
    due("copy below 0", x.copy(0, 0, 1, 0, -1), -12);
    due("copy far", x.copy(0, Integer.MAX_VALUE, 1, 0, Integer.MAX_VALUE), -12);
    due("copy far", x.copy(0, 1, 1, 1, Integer.MAX_VALUE), -12);
    x.sheet(2, 0, 6);
    due("copy unlike", x.copy(0, 0, 2, 0, 1), -13);
    due("unlike ahead of outside", x.copy(2, -1, 0, 0, -1), -13);
    x.sheet(3, -1, 0);
    due("copy missing", x.copy(0, 0, 3, 0, 1), -11);
    due("copy missing", x.copy(3, 99, 0, 0, 1), -11);
    due("copy sheet", x.copy(4, 0, 0, 0, 1), -2);
    due("bad ahead of missing", x.copy(3, 0, 4, 0, 1), -2);
    x.sheet(3, 0, 6);
    x.put(2, 5, -7);
    due("copy shorts", x.copy(2, 5, 3, 0, 1), 1);
  }

  public static void main(String[] args) {
    p1to6();
    p7to10();
    p11to17();
    p18to19();
    p20to22();
    p23to27();
    p28to29();
    p30to32();
    p33to36();
    p37to39();
    System.out.println(failures == 0 ? "all promises are kept" : failures + " answers are not as due");
    if (failures != 0) {
      System.exit(1);
    }
  }
}
