/** Promise by promise: each argument just inside and just beyond its bounds, each bound of what is kept, and each return. */
public final class EdgeTests extends Checks {
  private static final String ACTS = "uqpbgfhctwxro";
  private static final String WHOS = "ahslrce";
  private static final String CONCEPTS = "-XYOPTC";
  private static final String LETTERS = "ABCDEFGH";

  private interface OfNumber {
    Object run(int number);
  }

  private interface OfSign {
    Object run(char sign);
  }

  public static void main(String[] args) throws Exception {
    for (int promise = 1; promise <= 53; promise++) {
      run(EdgeTests.class, "edges" + promise);
    }
    run(EdgeTests.class, "edges22Ends");
    end("all edges are kept");
  }

  /** Both ends of a range are answered as such, and what is beyond them is thrown; each call is on a new square. */
  private static void ends(int least, int most, Class<?> beyond, OfNumber call) {
    for (int inside : new int[] {least, least + 1, most - 1, most}) {
      h = new Callerhall();
      Object got = answer(() -> call.run(inside));
      is(got == beyond ? "out of range: " + inside : "in range", "in range");
    }
    for (int outside : new int[] {least - 1, most + 1, Integer.MIN_VALUE, Integer.MAX_VALUE}) {
      h = new Callerhall();
      is(answer(() -> call.run(outside)) == beyond ? "beyond" : "in range: " + outside, "beyond");
    }
    h = new Callerhall();
  }

  /** The signs told are taken, and of all others none is. */
  private static void signs(String known, OfSign call) {
    h = new Callerhall();
    for (int i = 0; i < 65536; i++) {
      char sign = (char) i;
      if (known.indexOf(sign) >= 0 || i < 300 || i % 1001 == 0 || i == 65535) {
        boolean isTaken = answer(() -> call.run(sign)) != ARGUMENT;
        is(i + " " + isTaken, i + " " + (known.indexOf(sign) >= 0));
      }
    }
    h = new Callerhall();
  }

  private static void dancers(OfNumber call) {
    ends(0, 7, INDEX, call);
  }

  /** Some acts in one version, each of the same one. */
  private static void fill(char call, int year, int count) {
    for (int i = 0; i < count; i++) {
      h.define(call, year, 'q', 'a', '-');
    }
  }

  static void edges1() {
    // All dancers are at home, of skill 3, without phantoms and definitions, and there is no hall.
    is(h.isHome(), true);
    is(h.home(), 0);
    is(h.meanAway(), 0.0);
    for (int i = 0; i < 8; i++) {
      h = new Callerhall();
      is(h.skill(i, 0), 3);
    }
    is(h.clearPhantoms(), 0);
    for (int i = 0; i < 8; i++) {
      char call = LETTERS.charAt(i);
      is(h.forget(call), 0);
      h.year(2100);
      fails(ELEMENT, () -> h.parts(call));
      fails(ELEMENT, () -> h.beatsOf(call));
      fails(ELEMENT, () -> h.levelOf(call));
      fails(ELEMENT, () -> h.dance(call, 'a', '-', 1, 1));
    }
    fails(STATE, () -> h.tip());
    fails(INDEX, () -> h.setOf(0, 0));
    fails(INDEX, () -> h.met(0, 1));
    is(h.hall(4), 0);
  }

  static void edges2() {
    // How many were elsewhere, or faced another way: none, one of each, all.
    is(h.home(), 0);
    h.put(5, -1, 3, 3);
    is(h.home(), 1);
    h.put(5, -1, 4, 2);
    is(h.home(), 1);
    h.put(5, -2, 3, 2);
    is(h.home(), 1);
    h.change(2, 3);
    is(h.home(), 2);
    h.turnAll(2);
    is(h.home(), 8);
    is(all(), "-1 -3 0, 1 -3 0, 3 -1 3, 3 1 3, 1 3 2, -1 3 2, -3 1 1, -3 -1 1");
    // As rights have gone on: at 1 to 3 elsewhere than at 0, and at 4 there again.
    h.sing(8);
    String[] due = {"3 1 3", "-1 3 2", "-3 -1 1", "1 -3 0"};
    String[] ofLast = {"1 -3 0", "3 1 3", "-1 3 2", "-3 -1 1"};
    for (int i = 0; i < 4; i++) {
      h.progress();
      h.turnAll(1);
      is(h.home(), 8);
      is(at(1), due[i]);
      is(at(7), ofLast[i]);
      is(at(0) + ", " + at(6), "-1 -3 0, -3 1 1");
    }
  }

  static void edges3() {
    dancers(i -> h.x(i));
    is(h.x(0), -1);
    is(h.x(7), -3);
    h.put(0, 9, 0, 0);
    h.put(7, -9, 0, 0);
    is(h.x(0), 9);
    is(h.x(7), -9);
  }

  static void edges4() {
    dancers(i -> h.y(i));
    is(h.y(0), -3);
    is(h.y(7), -1);
    h.put(0, 0, 9, 0);
    h.put(7, 0, -9, 0);
    is(h.y(0), 9);
    is(h.y(7), -9);
    // Places that are danced to are not bound.
    h.put(0, 9, 9, 0);
    whole('u', 'h', '-');
    is(h.y(0), 11);
  }

  static void edges5() {
    dancers(i -> h.facing(i));
    for (int facing = 0; facing < 4; facing++) {
      h.put(7, 0, 0, facing);
      is(h.facing(7), facing);
    }
    // From 3 on to 0 by the right, and from 0 to 3 by the left.
    whole('q', 's', '-');
    is(h.facing(7), 0);
    whole('p', 's', '-');
    is(h.facing(7), 3);
  }

  static void edges6() {
    dancers(i -> h.put(i, 0, 0, 0));
    ends(-9, 9, ARGUMENT, x -> h.put(0, x, 0, 0));
    ends(-9, 9, ARGUMENT, y -> h.put(0, 0, y, 0));
    ends(0, 3, ARGUMENT, f -> h.put(0, 0, 0, f));
    // It returns which way the dancer faced, not faces.
    is(h.put(3, 0, 0, 1), 3);
    is(h.put(3, 0, 0, 2), 1);
    is(h.put(3, 0, 0, 2), 2);
    // Another dancer is there, but not the same one, a phantom, or one beside it.
    fails(UNSUPPORTED, () -> h.put(0, 0, 0, 0));
    is(h.put(0, 1, 0, 0), 0);
    fails(UNSUPPORTED, () -> h.put(7, 1, 0, 0));
    is(h.put(7, 1, 1, 0), 1);
    fails(UNSUPPORTED, () -> h.put(0, 1, 1, 0));
    h.phantom(5, 5, 0);
    is(h.put(0, 5, 5, 0), 0);
    // A place is free again when its dancer is put elsewhere.
    is(h.put(7, 1, 0, 0), 0);
  }

  static void edges7() {
    dancers(i -> h.change(i, i == 4 ? 3 : 4));
    dancers(i -> h.change(i == 4 ? 3 : 4, i));
    for (int i = 0; i < 8; i++) {
      int same = i;
      fails(ARGUMENT, () -> h.change(same, same));
    }
    // How far they are apart, x and y together: 1, the most, and each way round.
    h.put(0, 9, 9, 1);
    h.put(1, -9, -9, 2);
    is(h.change(0, 1), 36);
    is(h.change(0, 1), 36);
    is(h.change(1, 0), 36);
    is(at(0) + ", " + at(1), "-9 -9 2, 9 9 1");
    h.put(1, -9, -8, 3);
    is(h.change(1, 0), 1);
    is(at(0) + ", " + at(1), "-9 -8 3, -9 -9 2");
  }

  static void edges8() {
    ends(1, 3, ARGUMENT, i -> h.turnAll(i));
    fails(ARGUMENT, () -> h.turnAll(0));
    fails(ARGUMENT, () -> h.turnAll(4));
    String[] due = {"-7 5 1", "-5 -7 0", "7 -5 3"};
    for (int i = 1; i <= 3; i++) {
      h.put(0, 5, 7, 2);
      is(h.turnAll(i), (6 - i) % 4);
      is(at(0), due[i - 1]);
      h.home();
    }
    // The facing 0 goes on to 3.
    is(h.turnAll(1), 3);
    is(h.turnAll(3), 0);
    is(h.isHome(), true);
    // Phantoms begin where they were told.
    lay(-1, 0, 0);
    h.phantom(1, 0, 2);
    h.turnAll(2);
    h.put(0, -1, 0, 0);
    is(h.fits('h', 'a', 'P'), true);
  }

  static void edges9() {
    for (int i = 0; i < 8; i++) {
      is(h.find(h.x(i), h.y(i)), i);
    }
    fails(ELEMENT, () -> h.find(-1, -2));
    fails(ELEMENT, () -> h.find(0, -3));
    fails(ELEMENT, () -> h.find(-3, 2));
    // A place far away holds nobody, and is no wrong argument; but one may be there by a dance.
    fails(ELEMENT, () -> h.find(9, 11));
    fails(ELEMENT, () -> h.find(Integer.MAX_VALUE, Integer.MIN_VALUE));
    h.put(0, 9, 9, 0);
    whole('u', 'h', '-');
    is(h.find(9, 11), 0);
    fails(ELEMENT, () -> h.find(9, 9));
  }

  static void edges10() {
    dancers(i -> h.skill(i, 1));
    ends(0, 3, ARGUMENT, i -> h.skill(7, i));
    is(h.skill(7, 0), 3);
    is(h.skill(7, 3), 0);
    is(h.skill(6, 3), 3);
    // Home, and all that is put, leave it.
    h.skill(0, 2);
    h.home();
    h.put(0, 0, 0, 0);
    is(h.skill(0, 3), 2);
  }

  static void edges11() {
    ends(-9, 9, ARGUMENT, x -> h.phantom(x, 0, 0));
    ends(-9, 9, ARGUMENT, y -> h.phantom(0, y, 0));
    ends(0, 3, ARGUMENT, f -> h.phantom(0, 0, f));
    // Another phantom is there, but not a dancer, or a phantom beside it.
    is(h.phantom(-1, -3, 0), 1);
    fails(UNSUPPORTED, () -> h.phantom(-1, -3, 2));
    is(h.phantom(-1, -2, 0), 2);
    is(h.phantom(-2, -3, 0), 3);
    // Eight, and one more.
    for (int i = 4; i <= 7; i++) {
      is(h.phantom(i, 5, 0), i);
    }
    is(h.phantom(9, 9, 0), 8);
    fails(STATE, () -> h.phantom(8, 8, 0));
    h.clearPhantoms();
    is(h.phantom(-1, -3, 1), 1);
  }

  static void edges12() {
    is(h.clearPhantoms(), 0);
    for (int i = 0; i < 8; i++) {
      h.phantom(i, 5, 0);
    }
    is(h.clearPhantoms(), 8);
    is(h.clearPhantoms(), 0);
    is(h.phantom(0, 5, 0), 1);
    is(h.clearPhantoms(), 1);
  }

  static void edges13() {
    ends(1, 3, ARGUMENT, i -> h.level(i));
    is(h.level(1), 3);
    is(h.level(3), 1);
    is(h.level(3), 3);
    is(h.level(2), 3);
    is(h.level(2), 2);
    // An act whose level is the one told is danced, one above it is not: for each act.
    int[] levels = {1, 1, 1, 1, 1, 2, 2, 3, 1, 2, 2, 3, 2};
    for (int i = 0; i < ACTS.length(); i++) {
      char act = ACTS.charAt(i);
      is(h.levelOf(act), levels[i]);
      for (int level = 1; level <= 3; level++) {
        h = new Callerhall();
        for (int dancer = 0; dancer < 8; dancer++) {
          h.skill(dancer, 0);
        }
        h.level(level);
        if (levels[i] <= level) {
          is(whole(act, 'a', '-'), h.parts(act));
        } else {
          refused('n', -1, act, 'a', '-');
        }
      }
    }
  }

  static void edges14() {
    ends(1900, 2100, ARGUMENT, i -> h.year(i));
    is(h.year(1900), 2000);
    is(h.year(1900), 1900);
    is(h.year(2100), 1900);
    is(h.year(2000), 2100);
    // The version of the greatest year up to the one told holds: its own year, the one before, and the one of the next.
    h.define('A', 1950, 'q', 'a', '-');
    fill('A', 1960, 2);
    fill('A', 1940, 3);
    int[] years = {1900, 1939, 1940, 1949, 1950, 1959, 1960, 2100};
    int[] due = {0, 0, 3, 3, 1, 1, 2, 2};
    for (int i = 0; i < years.length; i++) {
      h.year(years[i]);
      int parts = due[i];
      if (parts == 0) {
        fails(ELEMENT, () -> h.parts('A'));
        fails(ELEMENT, () -> h.beatsOf('A'));
        fails(ELEMENT, () -> h.levelOf('A'));
        fails(ELEMENT, () -> h.dance('A', 'a', '-', 1, 1));
      } else {
        is(h.parts('A'), parts);
        is(h.beatsOf('A'), 2 * parts);
        is(whole('A', 'a', '-'), parts);
      }
    }
    // 2000 at first.
    h = new Callerhall();
    fill('B', 2001, 1);
    fails(ELEMENT, () -> h.parts('B'));
    fill('B', 2000, 2);
    is(h.parts('B'), 2);
    // The ends of the years themselves.
    fill('C', 1900, 1);
    fill('C', 2100, 2);
    h.year(1900);
    is(h.parts('C'), 1);
    h.year(2099);
    is(h.parts('C'), 1);
    h.year(2100);
    is(h.parts('C'), 2);
  }

  static void edges15() {
    signs(LETTERS, sign -> h.define(sign, 2000, 'q', 'a', '-'));
    signs(ACTS, sign -> h.define('A', 2000, sign, 'a', '-'));
    signs(WHOS, sign -> h.define('A', 2000, 'q', sign, '-'));
    signs(CONCEPTS, sign -> h.define('A', 2000, 'q', 'a', sign));
    ends(1900, 2100, ARGUMENT, year -> h.define('A', year, 'q', 'a', '-'));
    // Eight acts, and one more, for the first, the second and the third version, of the first and the last letter.
    for (char call : new char[] {'A', 'H'}) {
      for (int year = 1990; year < 1993; year++) {
        int own = year;
        for (int i = 1; i <= 8; i++) {
          is(h.define(call, own, 'u', 'h', 'X'), i);
        }
        fails(STATE, () -> h.define(call, own, 'u', 'h', 'X'));
      }
      // Three versions, and one of another year.
      fails(STATE, () -> h.define(call, 1989, 'q', 'a', '-'));
      fails(STATE, () -> h.define(call, 1993, 'q', 'a', '-'));
      is(h.parts(call), 16);
      is(h.forget(call), 3);
    }
    // Two versions of other years let in a third one; with three, an act more of one of these is let in.
    is(h.define('B', 1990, 'q', 'a', '-'), 1);
    is(h.define('B', 1992, 'q', 'a', '-'), 1);
    is(h.define('B', 1991, 'q', 'a', '-'), 1);
    fails(STATE, () -> h.define('B', 1994, 'q', 'a', '-'));
    is(h.define('B', 1990, 'q', 'a', '-'), 2);
    is(h.define('B', 1991, 'q', 'a', '-'), 2);
    is(h.define('B', 1992, 'q', 'a', '-'), 2);
    // Letters do not share their versions.
    is(h.define('C', 1990, 'q', 'a', '-'), 1);
    is(h.forget('B'), 3);
    is(h.define('C', 1990, 'q', 'a', '-'), 2);
    // It is put behind those of the version: in this order.
    lay(0, 0, 0);
    h.define('A', 2000, 'u', 'h', '-');
    h.define('A', 2000, 'p', 'h', '-');
    h.define('A', 2000, 'u', 'h', '-');
    h.define('A', 2000, 'q', 'h', '-');
    whole('A', 'a', '-');
    is(at(0), "-2 2 0");
  }

  static void edges16() {
    signs(LETTERS, sign -> h.forget(sign));
    for (int count = 0; count <= 3; count++) {
      for (int i = 0; i < count; i++) {
        h.define('H', 1990 + i, 'q', 'a', '-');
        h.define('G', 1990 + i, 'q', 'a', '-');
      }
      is(h.forget('H'), count);
      is(h.forget('H'), 0);
      fails(ELEMENT, () -> h.parts('H'));
      fails(ELEMENT, () -> h.timing('H', 1990, 5));
      // No other call's versions.
      is(h.forget('G'), count);
    }
    // What is defined anew is new: no acts, and no beats that were told before.
    fill('A', 2000, 8);
    h.timing('A', 2000, 99);
    h.forget('A');
    is(h.define('A', 2000, 'u', 'a', '-'), 1);
    is(h.parts('A'), 2);
    is(h.beatsOf('A'), 4);
  }

  static void edges17() {
    signs(LETTERS, sign -> {
      if (LETTERS.indexOf(sign) >= 0) {
        h.define(sign, 2000, 'q', 'a', '-');
      }
      return h.timing(sign, 2000, 9);
    });
    ends(1, 99, ARGUMENT, beats -> {
      fill('A', 2000, 1);
      return h.timing('A', 2000, beats);
    });
    ends(1, 99, ARGUMENT, beats -> h.timing('A', 2000, beats));
    // There is no version of this year, though one holds in it; the version's own year is the only one.
    fill('A', 1990, 3);
    fails(ELEMENT, () -> h.timing('A', 1989, 5));
    fails(ELEMENT, () -> h.timing('A', 1991, 5));
    fails(ELEMENT, () -> h.timing('A', 2000, 5));
    is(h.timing('A', 1990, 5), 6);
    is(h.timing('A', 1990, 99), 5);
    is(h.timing('A', 1990, 1), 99);
    is(h.beatsOf('A'), 1);
    // A year out of range has no version.
    fails(ELEMENT, () -> h.timing('A', 1899, 5));
    fails(ELEMENT, () -> h.timing('A', Integer.MAX_VALUE, 5));
    // A version that does not hold, and another one of the same letter.
    fill('A', 2050, 2);
    is(h.timing('A', 2050, 30), 4);
    is(h.beatsOf('A'), 1);
    h.year(2050);
    is(h.beatsOf('A'), 30);
    // Those before, when acts were put behind what beats were told for.
    fill('A', 2050, 1);
    is(h.timing('A', 2050, 6), 30);
  }

  static void edges18() {
    signs(ACTS + LETTERS, sign -> {
      if (LETTERS.indexOf(sign) >= 0) {
        h.define(sign, 2000, 'q', 'a', '-');
      }
      return h.parts(sign);
    });
    // The fewest parts, and the most.
    fill('A', 2000, 1);
    is(h.parts('A'), 1);
    for (int i = 1; i <= 8; i++) {
      h.define('B', 2000, i % 2 == 0 ? 'c' : 'f', 'a', '-');
      is(h.parts('B'), 3 * i);
    }
    for (char call : "CDEFGH".toCharArray()) {
      fails(ELEMENT, () -> h.parts(call));
    }
  }

  static void edges19() {
    signs(ACTS + LETTERS, sign -> {
      if (LETTERS.indexOf(sign) >= 0) {
        h.define(sign, 2000, 'q', 'a', '-');
      }
      return h.beatsOf(sign);
    });
    for (char act : ACTS.toCharArray()) {
      is(h.beatsOf(act), 2 * h.parts(act));
    }
    for (int i = 1; i <= 8; i++) {
      h.define('B', 2000, 'c', 'a', '-');
      is(h.beatsOf('B'), 6 * i);
    }
    fails(ELEMENT, () -> h.beatsOf('A'));
    fails(ELEMENT, () -> h.beatsOf('C'));
    h.timing('B', 2000, 1);
    is(h.beatsOf('B'), 1);
    h.timing('B', 2000, 99);
    is(h.beatsOf('B'), 99);
  }

  static void edges20() {
    signs(ACTS + LETTERS, sign -> {
      if (LETTERS.indexOf(sign) >= 0) {
        h.define(sign, 2000, 'q', 'a', '-');
      }
      return h.levelOf(sign);
    });
    // The greatest one, wherever it stands.
    h.define('A', 2000, 'u', 'a', '-');
    is(h.levelOf('A'), 1);
    h.define('A', 2000, 'w', 'a', '-');
    is(h.levelOf('A'), 2);
    h.define('A', 2000, 'r', 'a', '-');
    is(h.levelOf('A'), 3);
    h.define('A', 2000, 'h', 'a', '-');
    is(h.levelOf('A'), 3);
    fails(ELEMENT, () -> h.levelOf('B'));
    // The version that holds alone.
    h.define('A', 2001, 'q', 'a', '-');
    is(h.levelOf('A'), 3);
    h.year(2001);
    is(h.levelOf('A'), 1);
  }

  static void edges21() {
    signs(ACTS + LETTERS, sign -> h.dance(sign, 'a', '-', 1, 1));
    signs(WHOS, sign -> h.dance('q', sign, '-', 1, 1));
    signs(CONCEPTS, sign -> h.dance('q', 'a', sign, 1, 1));
    h.define('A', 2000, 'q', 'a', '-');
    for (char who : WHOS.toCharArray()) {
      if (who != 'a') {
        fails(ARGUMENT, () -> h.dance('A', who, '-', 1, 1));
      }
    }
    is(whole('A', 'a', '-'), 1);
    // The upper number from 1 to 12, the lower one from the upper one to 12.
    for (int up = -1; up <= 14; up++) {
      for (int down = -1; down <= 14; down++) {
        int upper = up;
        int lower = down;
        boolean isGood = up >= 1 && up <= 12 && down >= up && down <= 12;
        h = new Callerhall();
        Object got = answer(() -> h.dance('c', 's', '-', upper, lower));
        is(got == ARGUMENT, !isGood);
      }
    }
    fails(ARGUMENT, () -> h.dance('q', 'a', '-', Integer.MIN_VALUE, 12));
    fails(ARGUMENT, () -> h.dance('q', 'a', '-', 1, Integer.MAX_VALUE));
    wholeNumbers();
    reasonsInOrder();
  }

  /** A fraction of 1 to 24 parts can be if it makes whole parts, and no other one. */
  private static void wholeNumbers() {
    for (int parts = 1; parts <= 24; parts++) {
      for (int down = 1; down <= 12; down++) {
        layParts(parts);
        for (int up = 1; up <= down; up++) {
          int upper = up;
          int lower = down;
          if (parts * up % down == 0) {
            is(h.dance('A', 'a', '-', up, down), parts * up / down);
            is(h.left(), parts - parts * up / down);
          } else {
            fails(UNSUPPORTED, () -> h.dance('A', 'a', '-', upper, lower));
            is(h.why(), 'f');
          }
        }
      }
    }
  }

  /** A call A of some parts that all stand in. */
  private static void layParts(int parts) {
    h = new Callerhall();
    for (int i = 0; i < 8; i++) {
      h.skill(i, 0);
    }
    for (int i = 0; i < parts / 3; i++) {
      h.define('A', 2000, 'c', 'a', '-');
    }
    if (parts % 3 > 0) {
      h.define('A', 2000, parts % 3 == 1 ? 'q' : 'u', 'a', '-');
    }
    is(h.parts('A'), parts);
  }

  /** Reasons are looked at in the order n, f, and then w, p and b as they come. */
  private static void reasonsInOrder() {
    h = new Callerhall();
    h.level(2);
    fails(UNSUPPORTED, () -> h.dance('c', 'c', '-', 1, 2));
    is(h.why(), 'n');
    h.level(3);
    fails(UNSUPPORTED, () -> h.dance('c', 'c', '-', 1, 2));
    is(h.why(), 'f');
    refused('w', -1, 'c', 'c', '-');
    refused('p', 0, 'c', 'a', '-');
    // A collision in the first act comes ahead of what does not fit in the second one, and of nobody in it.
    h.define('A', 2000, 'u', 'a', '-');
    h.define('A', 2000, 'c', 'a', '-');
    h.define('A', 2000, 'q', 'c', '-');
    refused('b', 0, 'A', 'a', '-');
    h.define('B', 2000, 'h', 'a', '-');
    h.define('B', 2000, 'q', 'c', '-');
    refused('p', 0, 'B', 'a', '-');
    h.define('C', 2000, 'q', 'c', '-');
    h.define('C', 2000, 'h', 'a', '-');
    refused('w', -1, 'C', 'a', '-');
    // A concept comes ahead of who dances within it.
    refused('p', -1, 'q', 'c', 'T');
    // A level in any act of it, though the fraction would not come to it.
    h.define('D', 2000, 'q', 'a', '-');
    h.define('D', 2000, 'c', 'a', '-');
    h.level(2);
    fails(UNSUPPORTED, () -> h.dance('D', 'a', '-', 1, 4));
    is(h.why(), 'n');
    h.level(3);
    is(h.dance('D', 'a', '-', 1, 4), 1);
  }

  static void edges22() {
    // Nothing is left: on a new square, behind a whole call, behind a finish.
    fails(STATE, () -> h.finish());
    whole('b', 'a', '-');
    fails(STATE, () -> h.finish());
    h.dance('b', 'a', '-', 2, 4);
    is(h.finish(), 1);
    fails(STATE, () -> h.finish());
    // One part left, and all but one.
    fill('A', 2000, 8);
    is(h.dance('A', 'a', '-', 7, 8), 7);
    is(h.finish(), 1);
    is(h.dance('A', 'a', '-', 1, 8), 1);
    is(h.finish(), 7);
    // It cannot be, as why() tells: n, w, p and b.
    h.define('B', 2000, 'q', 'h', '-');
    h.define('B', 2000, 'w', 's', '-');
    h.define('B', 2000, 'q', 'c', '-');
    h.home();
    h.dance('B', 'a', '-', 1, 4);
    h.level(1);
    fails(UNSUPPORTED, () -> h.finish());
    reasonIs('n', -1);
    h.level(2);
    fails(UNSUPPORTED, () -> h.finish());
    reasonIs('w', -1);
    is(h.left(), 3);
    fill('C', 2000, 1);
    h.define('C', 2000, 'h', 's', '-');
    h.home();
    h.dance('C', 'a', '-', 1, 2);
    fails(UNSUPPORTED, () -> h.finish());
    reasonIs('p', 2);
    lay(0, -2, 0, 0, 0, 3);
    h.skill(1, 0);
    h.dance('u', 'a', '-', 1, 2);
    fails(UNSUPPORTED, () -> h.finish());
    reasonIs('b', 0);
    is(h.left(), 1);
  }

  static void edges23() {
    is(h.left(), 0);
    h.dance('b', 'a', '-', 2, 2);
    is(h.left(), 0);
    h.dance('b', 'a', '-', 1, 2);
    is(h.left(), 1);
    fill('A', 2000, 8);
    h.dance('A', 'a', '-', 1, 8);
    is(h.left(), 7);
    h.dance('A', 'a', '-', 7, 8);
    is(h.left(), 1);
    h.dance('A', 'a', '-', 8, 8);
    is(h.left(), 0);
    for (int i = 0; i < 8; i++) {
      h.skill(i, 0);
      h.define('B', 2000, 'c', 'a', '-');
    }
    h.dance('B', 'a', '-', 1, 12);
    is(h.left(), 22);
    h.dance('B', 'a', '-', 11, 12);
    is(h.left(), 2);
  }

  /** What is told ends what is left, though it tells nothing new; all else lets it be finished. */
  static void edges22Ends() {
    Call[] endings = {
      () -> h.home(), () -> h.put(0, 5, 5, 0), () -> h.put(0, -1, -3, h.facing(0)), () -> h.change(0, 1), () -> h.turnAll(1),
      () -> h.skill(0, 2), () -> h.skill(0, 3), () -> h.phantom(9, 9, 0), () -> h.clearPhantoms(),
      () -> h.year(1999), () -> h.year(2000), () -> h.define('A', 2000, 'q', 'a', '-'), () -> h.define('H', 1900, 'q', 'a', '-'),
      () -> h.forget('A'), () -> h.forget('H'), () -> h.timing('A', 2000, 5), () -> h.back(),
      () -> h.dance('q', 'a', '-', 1, 1), () -> h.dance('q', 's', '-', 1, 1), () -> h.finish()};
    for (Call ending : endings) {
      h = new Callerhall();
      fill('A', 2000, 2);
      h.dance('b', 'a', '-', 1, 2);
      is(h.left(), 1);
      ending.run();
      is(h.left(), 0);
      fails(STATE, () -> h.finish());
    }
    Call[] others = {
      () -> h.level(1), () -> h.level(3), () -> h.sing(8), () -> h.hall(4), () -> h.fits('u', 'h', '-'), () -> h.isConsistent(),
      () -> h.parts('A'), () -> h.beatsOf('A'), () -> h.levelOf('A'), () -> h.formation(), () -> h.repairs('l'),
      () -> h.partner(0, false, 2), () -> h.isAmong(0, 'h'), () -> h.find(-1, -3), () -> h.calls(), () -> h.why(),
      () -> h.wayHome(0), () -> h.progress(), () -> h.put(0, 1, -3, 0),
      () -> h.put(0, 0, 0, 4), () -> h.change(1, 1), () -> h.turnAll(4),
      () -> h.skill(0, 4), () -> h.phantom(0, 0, 4), () -> h.year(2101),
      () -> h.define('A', 2000, 'z', 'a', '-'), () -> h.forget('I'),
      () -> h.timing('A', 1999, 5), () -> h.dance('h', 'a', '-', 1, 1),
      () -> h.dance('q', 'a', '-', 1, 2), () -> h.dance('B', 'a', '-', 1, 1)};
    for (Call other : others) {
      h = new Callerhall();
      fill('A', 2000, 2);
      h.dance('b', 'a', '-', 1, 2);
      answer(other);
      is(h.left(), 1);
      is(h.finish(), 1);
      is(h.turned(0), 1);
    }
  }

  static void edges24() {
    // '-' ahead of all, though a call with wrong arguments, or without a version, was made: it was not tried.
    fails(ARGUMENT, () -> h.dance('q', 'a', '-', 2, 1));
    fails(ELEMENT, () -> h.dance('A', 'a', '-', 1, 1));
    fails(STATE, () -> h.finish());
    reasonIs('-', -1);
    // Of the last one: a call that is danced takes the reason away, a finish too.
    refused('b', 0, 'u', 'a', '-');
    h.dance('b', 'a', '-', 1, 2);
    reasonIs('-', -1);
    refused('p', 0, 'c', 'a', '-');
    fails(ARGUMENT, () -> h.dance('q', 'a', '-', 2, 1));
    reasonIs('p', 0);
    h.finish();
    reasonIs('-', -1);
    // What is not tried leaves it: a look whether an act fits, a way home, a return.
    refused('p', 0, 'c', 'a', '-');
    h.fits('q', 'a', '-');
    h.back();
    h.wayHome(0);
    h.isConsistent();
    reasonIs('p', 0);
    h.home();
    reasonIs('p', 0);
  }

  static void edges25() {
    // Neither p nor b: '-', n, f, w; and p by a concept.
    fails(ELEMENT, () -> h.whom());
    whole('q', 'a', '-');
    fails(ELEMENT, () -> h.whom());
    h.level(1);
    refused('n', -1, 'c', 'a', '-');
    h.level(3);
    fails(UNSUPPORTED, () -> h.dance('q', 'a', '-', 1, 2));
    reasonIs('f', -1);
    refused('w', -1, 'q', 'e', '-');
    refused('p', -1, 'q', 'a', 'C');
    refused('p', -1, 'q', 'a', 'T');
    // The lowest one who did not fit, not the first one in place; 0 and the last one.
    lay(5, 0, 0, 3, 5, 0, -5, 0, 0);
    refused('p', 0, 'x', 'a', '-');
    refused('p', 1, 'x', 'r', '-');
    for (int i = 0; i < 8; i++) {
      h.skill(i, i == 7 ? 3 : 0);
    }
    refused('p', 7, 'x', 'a', '-');
    // A phantom by its number: the first one, and the last one.
    h.skill(7, 0);
    for (int i = 0; i < 7; i++) {
      h.phantom(i < 6 ? 2 * i - 9 : 9, -9, 0);
    }
    refused('p', 14, 'x', 'a', 'P');
    h.phantom(7, -9, 0);
    is(whole('x', 'a', 'P'), 1);
    refused('p', 8, 'g', 'a', 'P');
    refused('p', 9, 'g', 'r', 'P');
    h.clearPhantoms();
    for (int i = 0; i < 8; i++) {
      h.phantom(i < 6 ? 2 * i - 9 : 2 * i - 5, i < 6 ? -9 : i, 0);
    }
    refused('p', 15, 'r', 'r', 'P');
    // The lowest one who collided, not the first one in place: 0, and phantoms.
    lay(7, 7, 0, 3, 1, 2, 2, 0, 1, 5, 1, 2, 6, 0, 3);
    refused('b', 1, 'u', 'a', '-');
    h.put(0, 5, -1, 0);
    refused('b', 0, 'u', 'a', '-');
    lay(7, 7, 0);
    for (int i = 0; i < 8; i++) {
      h.phantom(i, i == 7 ? -4 : i == 6 ? -5 : -9, i == 7 ? 3 : 0);
    }
    refused('b', 14, 'u', 'a', 'P');
  }

  static void edges26() {
    signs(ACTS, sign -> h.fits(sign, 'a', '-'));
    signs(WHOS, sign -> h.fits('q', sign, '-'));
    signs(CONCEPTS, sign -> h.fits('q', 'a', sign));
    // Would it be danced: not by p, w and b; nor by a b in its second part, or by a concept behind it.
    is(h.fits('h', 'a', '-'), false);
    is(h.fits('q', 'c', '-'), false);
    is(h.fits('u', 'a', '-'), false);
    is(h.fits('u', 's', '-'), true);
    lay(0, -2, 0, 0, 0, 3);
    h.skill(1, 0);
    is(h.fits('u', 'a', '-'), false);
    h.put(1, 0, 1, 3);
    is(h.fits('u', 'a', '-'), true);
    layUp();
    is(h.fits('q', 'l', 'C'), false);
    h.change(1, 2);
    is(h.fits('q', 'l', 'C'), false);
    h.skill(0, 0);
    is(h.fits('q', 'l', 'C'), true);
    // Whatever the level.
    h = new Callerhall();
    h.level(1);
    is(h.fits('x', 'a', '-'), true);
    is(h.fits('r', 'l', '-'), true);
    // Nothing is changed by it, and nothing was tried.
    is(h.isHome(), true);
    is(h.calls(), 0);
    is(h.why(), '-');
    fails(ARITHMETIC, () -> h.doneShare());
  }

  /** Two rows of couples that all face up: for C four units, of 0 and 1, 2 and 3, 4 and 5, 6 and 7. */
  private static void layUp() {
    lay(-3, -1, 0, -1, -1, 0, 1, -1, 0, 3, -1, 0, -3, 1, 0, -1, 1, 0, 1, 1, 0, 3, 1, 0);
  }

  static void edges27() {
    fails(ELEMENT, () -> h.back());
    // The last of 20 calls can be taken back, and the one ahead of these cannot: with 19, 20 and 21 calls.
    for (int count = 19; count <= 21; count++) {
      h = new Callerhall();
      for (int i = 0; i < count; i++) {
        whole('q', 'a', '-');
      }
      int most = Math.min(count, 20);
      is(h.calls(), most);
      for (int i = most - 1; i >= 0; i--) {
        is(h.back(), i);
      }
      fails(ELEMENT, () -> h.back());
      is(h.facing(0), count == 21 ? 1 : 0);
    }
    // Behind a return there is room for one more again.
    h = new Callerhall();
    for (int i = 0; i < 20; i++) {
      whole('q', 'a', '-');
    }
    h.back();
    whole('q', 'a', '-');
    is(h.calls(), 20);
    whole('q', 'a', '-');
    is(h.calls(), 20);
    // With what was finished of it; a fraction that was not finished too; and calls ahead of both stay.
    h = new Callerhall();
    whole('q', 'h', '-');
    h.dance('b', 'a', '-', 1, 2);
    h.finish();
    h.dance('u', 's', '-', 1, 2);
    is(h.back(), 2);
    is(at(0) + ", " + at(2), "-1 -3 3, 3 -1 1");
    is(h.back(), 1);
    is(at(0) + ", " + at(2), "-1 -3 1, 3 -1 3");
    is(h.back(), 0);
    is(h.isHome(), true);
    backEnds();
  }

  private static void backEnds() {
    Call[] endings = {() -> h.put(0, 5, 5, 0), () -> h.put(0, -1, -3, 1), () -> h.change(0, 1), () -> h.turnAll(2), () -> h.home()};
    for (Call ending : endings) {
      h = new Callerhall();
      whole('q', 'a', '-');
      ending.run();
      is(h.calls(), 0);
      fails(ELEMENT, () -> h.back());
      whole('q', 'h', '-');
      is(h.back(), 0);
    }
    h = new Callerhall();
    h.sing(8);
    whole('q', 'a', '-');
    whole('p', 'a', '-');
    h.progress();
    fails(ELEMENT, () -> h.back());
    Call[] others = {() -> h.skill(0, 0), () -> h.phantom(0, 0, 0), () -> h.clearPhantoms(), () -> h.level(1), () -> h.year(1990),
      () -> h.define('A', 2000, 'q', 'a', '-'), () -> h.forget('A'), () -> h.sing(8), () -> h.hall(4), () -> h.wayHome(1),
      () -> h.put(0, 1, -3, 0), () -> h.change(0, 0), () -> h.turnAll(0),
      () -> h.progress(), () -> h.dance('h', 'a', '-', 1, 1)};
    for (Call other : others) {
      h = new Callerhall();
      whole('q', 'a', '-');
      answer(other);
      is(h.calls(), 1);
      is(h.back(), 0);
      is(h.isHome(), true);
    }
    // Flow, hands, and how many beats were sung stay as they are; and so do all beats, and the share of what was danced.
    lay(-1, 0, 0, 1, 0, 2);
    h.sing(20);
    whole('h', 'a', '-');
    whole('p', 'a', '-');
    h.back();
    h.back();
    is(h.turned(0), -1);
    is(h.broken(), 2);
    is(h.sung(), 4);
    is(h.beats(), 4L);
    is(h.doneShare(), 1.0f);
    whole('h', 'a', '-');
    is(h.clashes(), 2);
    is(h.broken(), 4);
  }

  static void edges28() {
    is(h.calls(), 0);
    for (int i = 1; i <= 25; i++) {
      whole('q', 'a', '-');
      is(h.calls(), Math.min(i, 20));
    }
    // A fraction counts as one, a finish as none, what is refused as none.
    h.home();
    h.dance('b', 'a', '-', 1, 2);
    is(h.calls(), 1);
    h.finish();
    is(h.calls(), 1);
    refused('p', 0, 'c', 'a', '-');
    is(h.calls(), 1);
    h.back();
    is(h.calls(), 0);
  }

  static void edges29() {
    fails(INDEX, () -> h.callAt(0));
    String letters = "qpbqpbqpbqpbqpbqpbqpbqp";
    for (int count = 1; count <= letters.length(); count++) {
      whole(letters.charAt(count - 1), 'a', '-');
      int most = Math.min(count, 20);
      is(h.callAt(0), letters.charAt(count - 1));
      is(h.callAt(most - 1), letters.charAt(count - most));
      fails(INDEX, () -> h.callAt(most));
      fails(INDEX, () -> h.callAt(-1));
    }
    fails(INDEX, () -> h.callAt(Integer.MAX_VALUE));
    fails(INDEX, () -> h.callAt(Integer.MIN_VALUE));
    h.back();
    is(h.callAt(0), 'q');
    is(h.callAt(18), letters.charAt(3));
    fails(INDEX, () -> h.callAt(19));
    // A call's letter, by itself.
    fill('H', 2000, 1);
    whole('H', 'a', '-');
    is(h.callAt(0), 'H');
  }

  static void edges30() {
    dancers(i -> h.isAmong(i, 'a'));
    signs(WHOS, sign -> h.isAmong(0, sign));
    // There are no centers and no others with the last sum of the ones and the first of the others the same.
    layRow(1, -2, 3, -4, 5, -6, 7, -8);
    for (int i = 0; i < 8; i++) {
      is(h.isAmong(i, 'c'), i < 4);
      is(h.isAmong(i, 'e'), i >= 4);
    }
    h.put(4, 0, 4, 0);
    fails(ELEMENT, () -> h.isAmong(0, 'c'));
    fails(ELEMENT, () -> h.isAmong(0, 'e'));
    fails(ELEMENT, () -> h.isAmong(7, 'c'));
    is(h.isAmong(0, 'a'), true);
    h.put(4, 1, 4, 0);
    is(h.isAmong(4, 'e'), true);
    is(h.isAmong(3, 'c'), true);
    // Others may have the same sums.
    h.put(3, 0, -3, 0);
    h.put(5, 0, 5, 0);
    is(h.isAmong(2, 'c'), true);
    is(h.isAmong(3, 'c'), true);
    is(h.isAmong(5, 'e'), true);
    // Skills and phantoms have no part in it.
    h.skill(0, 0);
    h.phantom(0, 0, 0);
    is(h.isAmong(0, 'c'), true);
    is(h.isAmong(3, 'c'), true);
    // Nor has how far rights have gone on.
    h = new Callerhall();
    h.sing(8);
    h.progress();
    is(h.isAmong(1, 'h'), true);
    is(h.isAmong(1, 's'), false);
    is(h.isAmong(3, 's'), true);
  }

  /** All dancers along x. */
  private static void layRow(int... x) {
    h = new Callerhall();
    for (int i = 0; i < 8; i++) {
      h.put(i, 9, 9 - i, 0);
    }
    for (int i = 0; i < 8; i++) {
      h.put(i, x[i], 0, 0);
    }
  }

  static void edges31() {
    dancers(i -> h.partner(i, false, 2));
    for (int spacing = -4; spacing <= 8; spacing++) {
      int own = spacing;
      lay(0, 0, 0, 0, 2, 2, 2, 0, 0);
      Object face = answer(() -> h.partner(0, true, own));
      Object side = answer(() -> h.partner(0, false, own));
      is(face, own == 2 ? (Object) 1 : own == 4 ? ELEMENT : ARGUMENT);
      is(side, own == 2 ? (Object) 2 : own == 4 ? ELEMENT : ARGUMENT);
    }
    // Face to face: at the spacing, and at 1 less and 1 more; for both spacings and all ways.
    for (int turn = 0; turn < 4; turn++) {
      for (int apart = 1; apart <= 5; apart++) {
        lay(0, 0, 0, 0, apart, 2);
        if (turn > 0) {
          h.turnAll(turn);
        }
        Object near = answer(() -> h.partner(0, true, 2));
        Object far = answer(() -> h.partner(1, true, 4));
        is(near, apart == 2 ? (Object) 1 : ELEMENT);
        is(far, apart == 4 ? (Object) 0 : ELEMENT);
        lay(0, 0, 0, apart, 0, 2);
        if (turn > 0) {
          h.turnAll(turn);
        }
        near = answer(() -> h.partner(0, false, 2));
        far = answer(() -> h.partner(1, false, 4));
        is(near, apart == 2 ? (Object) 1 : ELEMENT);
        is(far, apart == 4 ? (Object) 0 : ELEMENT);
      }
    }
    // One that is aside, or does not face back.
    lay(0, 0, 0, 1, 2, 2);
    fails(ELEMENT, () -> h.partner(0, true, 2));
    for (int facing = 0; facing < 4; facing++) {
      lay(0, 0, 0, 0, 2, facing);
      is(answer(() -> h.partner(0, true, 2)), facing == 2 ? (Object) 1 : ELEMENT);
    }
    // If all dance: whatever the skills; phantoms are no partners.
    lay(0, 0, 0, 0, 2, 2);
    h.skill(0, 0);
    h.skill(1, 0);
    is(h.partner(0, true, 2), 1);
    h.put(1, 5, 5, 0);
    h.phantom(0, 2, 2);
    h.phantom(2, 0, 0);
    fails(ELEMENT, () -> h.partner(0, true, 2));
    fails(ELEMENT, () -> h.partner(0, false, 2));
  }

  static void edges32() {
    dancers(i -> h.pair(i));
    for (int apart = 1; apart <= 4; apart++) {
      lay(0, 0, 0, apart, 0, 0);
      is(answer(() -> h.pair(0)), apart == 2 ? (Object) 'c' : ELEMENT);
    }
    // Along x: those who face up or down; a right wave has the other one on the right.
    String[] due = {"c", "r", "l", "c"};
    for (int i = 0; i < 4; i++) {
      lay(-1, 0, i / 2 * 2, 1, 0, i % 2 * 2);
      is(h.pair(0) + "" + h.pair(1), due[i] + due[i]);
      lay(0, -1, 3 - i / 2 * 2, 0, 1, 3 - i % 2 * 2);
      is(h.pair(0) + "" + h.pair(1), due[i] + due[i]);
      lay(-1, 0, 3 - i / 2 * 2, 1, 0, 3 - i % 2 * 2);
      fails(ELEMENT, () -> h.pair(0));
      lay(0, -1, i / 2 * 2, 0, 1, i % 2 * 2);
      fails(ELEMENT, () -> h.pair(0));
    }
    // Whatever the skills.
    lay(-1, 0, 0, 1, 0, 0);
    h.skill(1, 0);
    is(h.pair(0), 'c');
  }

  private static final String FORMATIONS = "slkwvet";

  /** The eight places of a formation as the document tells them, dancers anywhere. */
  private static void layFormation(char formation) {
    int[] row = {-3, -1, 1, 3};
    int[] along = {-7, -5, -3, -1, 1, 3, 5, 7};
    h = new Callerhall();
    if (formation == 's') {
      return;
    }
    for (int i = 0; i < 8; i++) {
      h.put(i, 9, 9 - i, 0);
    }
    for (int i = 0; i < 8; i++) {
      int x = row[i % 4];
      int y = i < 4 ? -1 : 1;
      boolean isUp = i % 4 == 0 || i % 4 == 2;
      int who = (5 * i + 3) % 8;
      switch (formation) {
        case 'l': h.put(who, x, y, y == -1 ? 0 : 2); break;
        case 'k': h.put(who, x, y, y == -1 ? 2 : 0); break;
        case 'w': h.put(who, x, y, isUp ? 0 : 2); break;
        case 'v': h.put(who, x, y, isUp ? 2 : 0); break;
        case 'e': h.put(who, y, x, isUp ? 0 : 2); break;
        default: h.put(who, along[i], 0, isUp ? 0 : 2);
      }
    }
  }

  static void edges33() {
    for (char formation : FORMATIONS.toCharArray()) {
      for (int turn = 0; turn < 4; turn++) {
        for (int dancer = 0; dancer < 8; dancer++) {
          // Exactly it, however it is turned; then each dancer faces another way, or is 1 aside.
          layFormation(formation);
          if (turn > 0) {
            h.turnAll(turn);
          }
          is(h.formation(), formation);
          int x = h.x(dancer);
          int y = h.y(dancer);
          int facing = h.facing(dancer);
          for (int other = 1; other < 4; other++) {
            h.put(dancer, x, y, (facing + other) % 4);
            is(h.formation(), '-');
          }
          h.put(dancer, x + 1, y, facing);
          is(h.formation(), '-');
          h.put(dancer, x, y + 1, facing);
          is(h.formation(), '-');
          h.put(dancer, x, y, facing);
          is(h.formation(), formation);
        }
        // Whoever is where: two who change their places leave it.
        h.change(0, 1);
        is(h.formation(), formation);
      }
    }
    // Other places of a formation, as wide but moved by 2 along it, are none.
    layFormation('l');
    for (int i = 0; i < 8; i++) {
      h.put(i, h.x(i), h.y(i) + 7, h.facing(i));
    }
    is(h.formation(), '-');
  }

  static void edges34() {
    signs(FORMATIONS, sign -> h.repairs(sign));
    for (char formation : FORMATIONS.toCharArray()) {
      for (int turn = 0; turn < 4; turn++) {
        layFormation(formation);
        if (turn > 0) {
          h.turnAll(turn);
        }
        // From none to all: one more elsewhere each time.
        for (int i = 0; i < 8; i++) {
          is(h.repairs(formation), i);
          h.put(i, i + 1, i % 2 == 0 ? 9 : -9, 0);
        }
        is(h.repairs(formation), 8);
      }
    }
    // At a place of it, but facing otherwise; and for the best turn: three as it tells, five as turned by a quarter.
    layFormation('t');
    h.put(0, h.x(0), 0, 1);
    is(h.repairs('t'), 1);
    layFormation('t');
    for (int i = 0; i < 5; i++) {
      int x = 2 * i - 7;
      int who = h.find(x, 0);
      h.put(who, 0, x, i % 2 == 0 ? 3 : 1);
    }
    is(h.repairs('t'), 3);
    layFormation('t');
    for (int i = 0; i < 3; i++) {
      int x = 2 * i - 7;
      int who = h.find(x, 0);
      h.put(who, 0, x, i % 2 == 0 ? 3 : 1);
    }
    is(h.repairs('t'), 3);
    // Lines that face out instead of in are at its places, but all face the other way; every second one in waves.
    layFormation('k');
    is(h.repairs('l'), 8);
    is(h.repairs('k'), 0);
    is(h.repairs('w'), 4);
    is(h.repairs('v'), 4);
  }

  static void edges35() {
    for (int turn = 1; turn <= 4; turn++) {
      h.turnAll(1);
      is(h.isHome(), true);
      for (int i = 0; i < 8; i++) {
        int x = h.x(i);
        int y = h.y(i);
        int facing = h.facing(i);
        h.put(i, x, y, (facing + 1) % 4);
        is(h.isHome(), false);
        h.put(i, x, y + 1, facing);
        is(h.isHome(), false);
        h.put(i, x + 1, y, facing);
        is(h.isHome(), false);
        h.put(i, x, y, facing);
        is(h.isHome(), true);
      }
    }
    // A square of others at all spots is no home: two of one side, or all rights on by one.
    h.change(0, 4);
    is(h.isHome(), false);
    is(h.formation(), 's');
    // As rights have gone on: each number of times has its own home, and none of the others.
    for (int gone = 0; gone < 4; gone++) {
      for (int on = 0; on < 4; on++) {
        h = new Callerhall();
        h.sing(8);
        for (int i = 0; i < gone; i++) {
          h.progress();
        }
        layRights(on);
        is(h.isHome(), gone == on);
        h.turnAll(3);
        is(h.isHome(), gone == on);
      }
    }
  }

  /** All at their spots, rights at those of the couple as many further. */
  private static void layRights(int on) {
    int[] x = {1, 3, -1, -3};
    int[] y = {-3, 1, 3, -1};
    for (int i = 0; i < 4; i++) {
      h.put(2 * i + 1, 9, i, 0);
    }
    for (int i = 0; i < 4; i++) {
      h.put(2 * i + 1, x[(i + on) % 4], y[(i + on) % 4], (4 - (i + on) % 4) % 4);
    }
  }

  static void edges36() {
    is(h.isSymmetric(), true);
    for (int i = 0; i < 8; i++) {
      h.home();
      int x = h.x(i);
      int y = h.y(i);
      int facing = h.facing(i);
      h.put(i, x, y, (facing + 2) % 4);
      is(h.isSymmetric(), false);
      h.put(i, x, y * 3, facing);
      is(h.isSymmetric(), false);
      h.put(i, x * 3, y * 3, facing);
      is(h.isSymmetric(), false);
      h.put((i + 4) % 8, -x * 3, -y * 3, (facing + 2) % 4);
      is(h.isSymmetric(), true);
    }
    h.home();
    h.change(0, 4);
    is(h.isSymmetric(), true);
    h.change(0, 1);
    is(h.isSymmetric(), false);
    h.change(4, 5);
    is(h.isSymmetric(), true);
  }

  static void edges37() {
    dancers(i -> h.turned(i));
    is(h.turned(0), 0);
    // To the right and to the left, more than a whole turn, and those to the left taken off.
    fill('A', 2000, 8);
    whole('A', 'a', '-');
    is(h.turned(0), 8);
    for (int i = 0; i < 8; i++) {
      h.define('B', 2000, 'p', i < 5 ? 'l' : 'r', '-');
    }
    whole('B', 'a', '-');
    is(h.turned(0) + " " + h.turned(1), "-5 -3");
    h.define('C', 2000, 'b', 'a', '-');
    h.define('C', 2000, 'p', 'a', '-');
    h.define('C', 2000, 'p', 'a', '-');
    whole('C', 'a', '-');
    is(h.turned(0), 0);
    // Of the last one that was danced: a refused one, a return, and what is put leave it; a finish counts by itself.
    whole('b', 'a', '-');
    refused('p', 0, 'c', 'a', '-');
    h.back();
    h.put(0, 0, 0, 0);
    is(h.turned(0), 2);
    h.dance('C', 'a', '-', 3, 4);
    is(h.turned(0), 1);
    h.finish();
    is(h.turned(0), -1);
    // Those who pass do not turn by it.
    lay(0, -1, 0, 0, 1, 2);
    whole('u', 'a', '-');
    is(h.turned(0) + " " + h.turned(1), "0 0");
  }

  static void edges38() {
    is(h.broken(), 0);
    // By dancers: 1 of them, and all; the other sign alone breaks it, and a call without a turn does not mend it.
    for (int i = 1; i < 8; i++) {
      h.skill(i, 0);
    }
    whole('q', 'a', '-');
    whole('b', 'a', '-');
    is(h.broken(), 0);
    whole('p', 'a', '-');
    is(h.broken(), 1);
    h.skill(0, 0);
    whole('p', 'a', '-');
    h.skill(0, 3);
    is(h.broken(), 1);
    whole('q', 'a', '-');
    is(h.broken(), 2);
    // What adds up to nothing is no flow: neither broken by it, nor kept.
    h.define('A', 2000, 'q', 'a', '-');
    h.define('A', 2000, 'p', 'a', '-');
    whole('A', 'a', '-');
    is(h.broken(), 2);
    whole('q', 'a', '-');
    is(h.broken(), 2);
    whole('p', 'a', '-');
    is(h.broken(), 3);
    // All begins anew when all are put home, by home or by progress, and by nothing else.
    h.put(0, -1, -3, 0);
    h.turnAll(1);
    is(h.broken(), 3);
    whole('q', 'a', '-');
    is(h.broken(), 4);
    h.home();
    is(h.broken(), 0);
    whole('p', 'a', '-');
    is(h.broken(), 0);
    whole('q', 'a', '-');
    is(h.broken(), 1);
    h.sing(8);
    h.progress();
    is(h.broken(), 0);
    whole('p', 'a', '-');
    is(h.broken(), 0);
  }

  static void edges39() {
    is(h.clashes(), 0);
    lay(-1, 0, 0, 1, 0, 2);
    whole('h', 'a', '-');
    whole('q', 'a', '-');
    whole('p', 'a', '-');
    is(h.clashes(), 0);
    whole('h', 'a', '-');
    is(h.clashes(), 2);
    // One wave more: of four dancers, those two clash who took that hand.
    h.put(2, 5, 5, 0);
    h.put(3, 7, 5, 2);
    h.skill(2, 3);
    h.skill(3, 3);
    whole('h', 'a', '-');
    is(h.clashes(), 4);
    whole('h', 'a', '-');
    is(h.clashes(), 8);
    // Hands begin anew when all are put home.
    h.home();
    is(h.clashes(), 0);
    for (int i = 0; i < 4; i++) {
      h.skill(i, i < 2 ? 3 : 0);
    }
    h.put(0, -1, 0, 0);
    h.put(1, 1, 0, 2);
    whole('h', 'a', '-');
    is(h.clashes(), 0);
    whole('h', 'a', '-');
    is(h.clashes(), 2);
  }

  static void edges40() {
    ends(0, 2, ARGUMENT, i -> h.wayHome(i));
    fails(ARGUMENT, () -> h.wayHome(3));
    fails(ARGUMENT, () -> h.wayHome(-1));
    // A way of 0, 1 and 2 acts, with as many allowed, and with one less.
    is(h.wayHome(0), 0);
    is(h.wayHome(2), 0);
    whole('q', 'a', '-');
    fails(ELEMENT, () -> h.wayHome(0));
    is(h.wayHome(1), 1);
    is(h.wayHome(2), 1);
    h.home();
    whole('x', 'a', '-');
    whole('q', 'a', '-');
    fails(ELEMENT, () -> h.wayHome(0));
    fails(ELEMENT, () -> h.wayHome(1));
    is(h.wayHome(2), 2);
    // However all is turned.
    String found = h.wayAt(0) + "" + h.wayAt(1);
    for (int turn = 1; turn < 4; turn++) {
      h.turnAll(1);
      is(h.wayHome(2), 2);
      is(h.wayAt(0) + "" + h.wayAt(1), found);
    }
    // Longer ways are not found: two acts and one more.
    whole('u', 'a', '-');
    whole('q', 'a', '-');
    fails(ELEMENT, () -> h.wayHome(2));
    eachActHome();
  }

  /** From where each act, as the only or the last one, leads home, the first one in the order of acts is found. */
  private static void eachActHome() {
    String[] ways = {"q p", "p q", "b b", "t t", "x x", "w t"};
    for (String way : ways) {
      h = new Callerhall();
      whole(way.charAt(0), 'a', '-');
      is(h.wayHome(1), 1);
      is(h.wayAt(0), way.charAt(2) == 'w' ? 't' : way.charAt(2));
    }
    // All two places back of home: ahead is the one act.
    layBack(2);
    is(h.wayHome(2), 1);
    is(h.wayAt(0), 'u');
    layBack(4);
    is(h.wayHome(2), 2);
    is(h.wayAt(0) + "" + h.wayAt(1), "uu");
    layBack(3);
    fails(ELEMENT, () -> h.wayHome(2));
    // All have passed through by f: lefts face the right, rights the left, ahead of it they face each other.
    h = new Callerhall();
    for (int i = 0; i < 4; i++) {
      h.change(2 * i, 2 * i + 1);
      h.put(2 * i, h.x(2 * i), h.y(2 * i), (h.facing(2 * i) + 3) % 4);
      h.put(2 * i + 1, h.x(2 * i + 1), h.y(2 * i + 1), (h.facing(2 * i + 1) + 1) % 4);
    }
    is(h.wayHome(2), 1);
    is(h.wayAt(0), 'f');
    // As if all had the skill 3, in each of two acts, whatever the level: f brings all about, and t home.
    h = new Callerhall();
    for (int i = 0; i < 8; i++) {
      h.put(i, h.x(i), h.y(i), (h.facing(i) + (i % 2 == 0 ? 1 : 3)) % 4);
      h.skill(i, i % 3 == 0 ? 0 : 1);
    }
    h.level(1);
    fails(ELEMENT, () -> h.wayHome(1));
    is(h.wayHome(2), 2);
    is(h.wayAt(0) + "" + h.wayAt(1), "ft");
    // By all: what leads home by some is no way.
    h = new Callerhall();
    whole('t', 's', '-');
    fails(ELEMENT, () -> h.wayHome(2));
    // Without phantoms in the way.
    h = new Callerhall();
    whole('b', 'a', '-');
    h.phantom(0, 0, 0);
    h.phantom(1, 3, 0);
    is(h.wayHome(1), 1);
  }

  /** All at home, but a number of places back. */
  private static void layBack(int places) {
    h = new Callerhall();
    for (int i = 0; i < 8; i++) {
      int facing = h.facing(i);
      int x = h.x(i) - (facing == 1 ? places : facing == 3 ? -places : 0);
      int y = h.y(i) - (facing == 0 ? places : facing == 2 ? -places : 0);
      h.put(i, x, y, facing);
    }
  }

  static void edges41() {
    fails(INDEX, () -> h.wayAt(0));
    h.wayHome(2);
    fails(INDEX, () -> h.wayAt(0));
    whole('q', 'a', '-');
    h.wayHome(1);
    is(h.wayAt(0), 'p');
    fails(INDEX, () -> h.wayAt(1));
    fails(INDEX, () -> h.wayAt(-1));
    layBack(4);
    h.wayHome(2);
    is(h.wayAt(1), 'u');
    fails(INDEX, () -> h.wayAt(2));
    fails(INDEX, () -> h.wayAt(-1));
    fails(INDEX, () -> h.wayAt(Integer.MAX_VALUE));
    fails(INDEX, () -> h.wayAt(Integer.MIN_VALUE));
    // The way that was found last stays, if none is found; a shorter one takes its place.
    h.put(0, 9, 9, 0);
    fails(ELEMENT, () -> h.wayHome(2));
    fails(ARGUMENT, () -> h.wayHome(3));
    is(h.wayAt(0) + "" + h.wayAt(1), "uu");
    h.home();
    whole('b', 'a', '-');
    h.wayHome(2);
    is(h.wayAt(0), 'b');
    fails(INDEX, () -> h.wayAt(1));
    h.home();
    h.wayHome(0);
    fails(INDEX, () -> h.wayAt(0));
  }

  static void edges42() {
    ends(8, 128, ARGUMENT, beats -> h.sing(beats));
    is(h.sing(8), 0);
    is(h.sing(128), 0);
    whole('q', 'a', '-');
    is(h.sing(9), 2);
    is(h.sing(9), 0);
    // The beats that were danced ahead of the first figure are of none.
    h = new Callerhall();
    whole('q', 'a', '-');
    is(h.sing(8), 0);
    // More beats than it should have are counted too.
    for (int i = 0; i < 70; i++) {
      whole('q', 'a', '-');
    }
    is(h.sing(8), 140);
  }

  static void edges43() {
    is(h.sung(), 0);
    whole('q', 'a', '-');
    is(h.sung(), 0);
    h.sing(8);
    is(h.sung(), 0);
    // A fraction counts its part of the beats, rounded down, a finish the rest: 1 to 99 beats for three parts.
    for (int i = 0; i < 8; i++) {
      h.skill(i, 0);
    }
    h.define('A', 2000, 'c', 'a', '-');
    for (int beats : new int[] {1, 2, 3, 4, 5, 98, 99}) {
      for (int up = 1; up <= 3; up++) {
        h.timing('A', 2000, beats);
        h.sing(8);
        h.dance('A', 'a', '-', up, 3);
        is(h.sung(), beats * up / 3);
        if (up < 3) {
          h.finish();
          is(h.sung(), beats);
        }
      }
    }
  }

  static void edges44() {
    // How many beats more, or less than 0: 1 more, none, 1 less are not to be had by acts; by a version's beats they are.
    h.define('A', 2000, 'b', 'a', '-');
    h.define('A', 2000, 'b', 'a', '-');
    for (int beats = 7; beats <= 9; beats++) {
      h.timing('A', 2000, beats);
      h.sing(8);
      whole('A', 'a', '-');
      is(h.progress(), 8 - beats);
      is(h.sung(), 0);
    }
    is(h.gone(), 3);
    // A figure as long begins: as long as the last one told.
    h.sing(100);
    h.sing(50);
    is(h.progress(), 50);
    is(h.progress(), 50);
    whole('b', 'a', '-');
    whole('b', 'a', '-');
    is(h.progress(), 42);
    is(h.progress(), 50);
    // All are home: one who faces another way, or is elsewhere, is not; nor are all that are turned.
    h.put(7, h.x(7), h.y(7), (h.facing(7) + 2) % 4);
    fails(UNSUPPORTED, () -> h.progress());
    h.home();
    is(h.progress(), 50);
    h.put(0, -1, -4, 0);
    fails(UNSUPPORTED, () -> h.progress());
    h.home();
    h.turnAll(2);
    is(h.isHome(), true);
    fails(UNSUPPORTED, () -> h.progress());
    h.home();
    // At home for one that has gone on less is not home.
    int before = h.gone();
    layRights((before + 1) % 4);
    fails(UNSUPPORTED, () -> h.progress());
    layRights(before);
    is(h.progress(), 50);
    // No figure was begun.
    h = new Callerhall();
    fails(STATE, () -> h.progress());
    h.sing(8);
    is(h.progress(), 8);
  }

  static void edges45() {
    h.sing(8);
    for (int i = 0; i < 9; i++) {
      is(h.gone(), i % 4);
      int k = i % 4;
      String[] spots = {"1 -3 0", "3 1 3", "-1 3 2", "-3 -1 1"};
      for (int couple = 0; couple < 4; couple++) {
        is(at(2 * couple + 1), spots[(couple + k) % 4]);
      }
      h.progress();
    }
  }

  static void edges46() {
    ends(4, 16, ARGUMENT, couples -> h.hall(couples));
    is(h.hall(16), 0);
    for (int i = 0; i < 30; i++) {
      h.tip();
    }
    is(h.hall(16), 30);
    is(h.hall(16), 0);
    h.tip();
    is(h.hall(5), 1);
    // In place of the other one: no tips, no meetings, and fewer couples.
    for (int one = 0; one < 5; one++) {
      for (int other = 0; other < 5; other++) {
        if (one != other) {
          is(h.met(one, other), 0);
        }
      }
    }
    fails(INDEX, () -> h.met(0, 5));
    fails(INDEX, () -> h.setOf(0, 0));
    // And nobody has danced a tip: as in a first hall, 0 to 3 are first, then 4 is with 0, 1 and 2.
    h.tip();
    is(sets(0, 5), "0000-");
    h.hall(5);
    h.tip();
    is(sets(0, 5), "0000-");
    h.tip();
    is(sets(1, 5), "000-0");
  }

  /** The sets of a tip, couple by couple. */
  private static String sets(int tip, int couples) {
    StringBuilder text = new StringBuilder();
    for (int i = 0; i < couples; i++) {
      int set = h.setOf(tip, i);
      text.append(set < 0 ? "-" : String.valueOf(set));
    }
    return text.toString();
  }

  static void edges47() {
    // As long as four couples are left: for each number of couples, how many sit out, and how many sets there are.
    for (int couples = 4; couples <= 16; couples++) {
      h.hall(couples);
      is(h.tip(), couples % 4);
      int seated = couples / 4 * 4;
      for (int i = 0; i < couples; i++) {
        is(h.setOf(0, i), i < seated ? i / 4 : -1);
      }
    }
    // 30 tips, and one more.
    h = new Callerhall();
    fails(STATE, () -> h.tip());
    h.hall(4);
    for (int i = 0; i < 30; i++) {
      is(h.tip(), 0);
    }
    fails(STATE, () -> h.tip());
    h.hall(4);
    is(h.tip(), 0);
    // First the couple with the fewest tips; then who has met those in the set least often in all, of the same the one
    // with the fewest tips, of the same the lowest one. By hand: 0123; 4 and 0, 1, 2; then 3 and 4, who never met, and
    // of 0, 1 and 2, who have met both once, the lowest two.
    h.hall(5);
    h.tip();
    is(sets(0, 5), "0000-");
    h.tip();
    is(sets(1, 5), "000-0");
    h.tip();
    is(sets(2, 5), "00-00");
    // 2 is first; 3 and 4 have met it once each, 0 and 1 twice; 4 and 3 have danced twice: 3, as the lower one; then 4,
    // who met 2 and 3 once each, and 0, whom 2 met twice, 3 twice, 4 twice, as 1 did.
    h.tip();
    is(sets(3, 5), "0-000");
    is(h.met(2, 3) + " " + h.met(2, 4) + " " + h.met(0, 1) + " " + h.met(1, 3) + " " + h.met(0, 4), "2 2 3 2 3");
    // Nine couples: in the fifth tip 3, 7 and 8 are in the first set, and 4 comes in, who has met them three times, not 6,
    // who has danced less, but met them four times.
    h.hall(9);
    String[] due = {"00001111-", "0011011-0", "010111-00", "101-11000", "11-001100"};
    for (int i = 0; i < due.length; i++) {
      is(h.tip(), 1);
      is(sets(i, 9), due[i]);
    }
  }

  static void edges48() {
    h.hall(16);
    h.tip();
    h.tip();
    ends48(2, 16);
    h.hall(4);
    fails(INDEX, () -> h.setOf(0, 0));
    for (int i = 0; i < 30; i++) {
      h.tip();
    }
    ends48(30, 4);
  }

  private static void ends48(int tips, int couples) {
    for (int tip : new int[] {0, tips - 1}) {
      is(h.setOf(tip, 0) >= 0, true);
      is(h.setOf(tip, couples - 1) >= 0, true);
      fails(INDEX, () -> h.setOf(tip, -1));
      fails(INDEX, () -> h.setOf(tip, couples));
    }
    for (int tip : new int[] {-1, tips, Integer.MAX_VALUE, Integer.MIN_VALUE}) {
      fails(INDEX, () -> h.setOf(tip, 0));
    }
  }

  static void edges49() {
    for (int couples : new int[] {4, 16}) {
      h.hall(couples);
      int last = couples - 1;
      is(h.met(0, last), 0);
      is(h.met(last, 0), 0);
      for (int none : new int[] {-1, couples, Integer.MAX_VALUE, Integer.MIN_VALUE}) {
        fails(INDEX, () -> h.met(none, 0));
        fails(INDEX, () -> h.met(0, none));
        fails(INDEX, () -> h.met(none, none));
      }
      fails(ARGUMENT, () -> h.met(0, 0));
      fails(ARGUMENT, () -> h.met(last, last));
    }
    // Each two of a set once by it, either way round; couples of two sets, and who sits out, not.
    h.hall(9);
    h.tip();
    for (int one = 0; one < 9; one++) {
      for (int other = 0; other < 9; other++) {
        if (one != other) {
          is(h.met(one, other), one < 8 && other < 8 && one / 4 == other / 4 ? 1 : 0);
        }
      }
    }
    h.hall(4);
    for (int i = 1; i <= 30; i++) {
      h.tip();
      is(h.met(0, 3), i);
      is(h.met(2, 1), i);
    }
  }

  static void edges50() {
    is(h.beats(), 0L);
    // With no figure, and with one that begins anew; what is taken back, and put home, is counted.
    whole('q', 'a', '-');
    h.sing(8);
    whole('q', 'a', '-');
    h.sing(8);
    h.back();
    h.home();
    is(h.beats(), 4L);
    // A fraction by its part, rounded down, a finish by the rest.
    h.define('A', 2000, 'b', 'a', '-');
    h.define('A', 2000, 'q', 'a', '-');
    h.timing('A', 2000, 1);
    h.dance('A', 'a', '-', 2, 3);
    is(h.beats(), 4L);
    h.finish();
    is(h.beats(), 5L);
    h.timing('A', 2000, 99);
    h.dance('A', 'a', '-', 1, 3);
    is(h.beats(), 38L);
    h.back();
    is(h.beats(), 38L);
    // The most that can be: all calls of 99 beats.
    for (int i = 0; i < 400; i++) {
      whole('A', 'a', '-');
    }
    is(h.beats(), 38L + 400 * 99);
  }

  static void edges51() {
    fails(ARITHMETIC, () -> h.doneShare());
    refused('b', 0, 'u', 'a', '-');
    is(h.doneShare(), 0.0f);
    h.dance('b', 'a', '-', 1, 2);
    is(h.doneShare(), 1.0f / 2.0f);
    h.level(1);
    fails(UNSUPPORTED, () -> h.dance('q', 'a', '-', 1, 2));
    is(h.doneShare(), 1.0f / 3.0f);
    h.finish();
    is(h.doneShare(), 2.0f / 4.0f);
    refused('n', -1, 'c', 'a', '-');
    is(h.doneShare(), 2.0f / 5.0f);
    // A finish that is refused was tried; what has wrong arguments, or no version, or nothing left, was not.
    h.level(2);
    h.dance('w', 's', '-', 1, 2);
    is(h.doneShare(), 3.0f / 6.0f);
    h.level(1);
    fails(UNSUPPORTED, () -> h.finish());
    is(h.doneShare(), 3.0f / 7.0f);
    fails(ARGUMENT, () -> h.dance('w', 's', '-', 0, 2));
    fails(ELEMENT, () -> h.dance('A', 'a', '-', 1, 2));
    h.back();
    fails(STATE, () -> h.finish());
    h.fits('w', 's', '-');
    is(h.doneShare(), 3.0f / 7.0f);
  }

  static void edges52() {
    is(h.meanAway(), 0.0);
    h.put(0, -1, -2, 2);
    is(h.meanAway(), 0.125);
    h.put(0, 0, -3, 2);
    is(h.meanAway(), 0.125);
    h.put(0, -2, -4, 0);
    is(h.meanAway(), 0.25);
    for (int i = 0; i < 8; i++) {
      h.put(i, 9, 9 - i, 0);
    }
    is(h.meanAway(), (10 + 12 + 8 + 11 + 6 + 8 + 6 + 5 + 8 + 2 + 10 + 1 + 12 + 2 + 12 + 3) / 8.0);
    // As rights have gone on.
    h.home();
    h.sing(8);
    h.progress();
    is(h.meanAway(), 0.0);
    layRights(0);
    is(h.meanAway(), 4 * 6 / 8.0);
  }

  static void edges53() {
    is(h.isConsistent(), true);
    for (int couples = 4; couples <= 16; couples += 6) {
      h.hall(couples);
      for (int i = 0; i < 30; i++) {
        is(h.isConsistent(), true);
        h.tip();
      }
      is(h.isConsistent(), true);
    }
  }
}
