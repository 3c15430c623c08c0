/** The paragraphs of the document's terms: each case that they name, just inside and just beyond it. */
public final class TermTests extends Checks {
  private static final String[] TESTS = {"use", "dancers", "bodiesAndWho", "whoOfUnits", "actsBySkill", "actsByWhom", "actsTurned",
      "faceToFace", "rows", "turning", "runs", "boxes", "boxesInOrder", "misfits", "collisions", "collisionsOfThree",
      "collisionsInParts", "partedByX", "partedByY", "wide", "phantoms", "tandems", "tandemHalves", "couples", "unitNumbers",
      "behindUnits", "collisionsOfUnits", "movedUnits", "conceptsWithin", "conceptsThatMeet", "calls", "versions", "fractions",
      "fractionsOfUnits", "reasons", "flow", "hands", "handsOfUnits"};

  public static void main(String[] args) throws Exception {
    for (String test : TESTS) {
      run(TermTests.class, test);
    }
    end("all terms are kept");
  }

  // ---- dancers and who

  static void use() {
    // An object is used for 512 calls: the last ones are answered as the first ones.
    for (int i = 0; i < 509; i++) {
      is(whole('q', 'a', '-'), 1);
    }
    is(h.beats(), 1018L);
    is(h.turned(0), 1);
    is(h.calls(), 20);
  }

  static void dancers() {
    // The spots of each next couple are a quarter to the left around 0, 0: -y, x for x, y.
    int[] left = {-1, -3};
    int[] right = {1, -3};
    for (int k = 0; k < 4; k++) {
      is(at(2 * k), left[0] + " " + left[1] + " " + (4 - k) % 4);
      is(at(2 * k + 1), right[0] + " " + right[1] + " " + (4 - k) % 4);
      left = new int[] {-left[1], left[0]};
      right = new int[] {-right[1], right[0]};
    }
    // Up is to greater y, 1 to the right, 2 down, 3 to the left.
    String[] due = {"0 2 0", "2 0 1", "0 -2 2", "-2 0 3"};
    for (int facing = 0; facing < 4; facing++) {
      lay(0, 0, facing);
      whole('u', 'a', '-');
      is(at(0), due[facing]);
    }
  }

  /** All dancers along x, at 1, -2, 3, -4 and so on: the sums are 1 to 8. */
  private static void layBySums() {
    lay(1, 0, 0, -2, 0, 0, 3, 0, 0, -4, 0, 0, 5, 0, 0, -6, 0, 0, 7, 0, 0, -8, 0, 0);
  }

  static void bodiesAndWho() {
    // The half of all bodies, rounded down: of 8 to 16 bodies 4, 4, 5, 5 and so on to 8.
    for (int count = 0; count <= 8; count++) {
      for (char who : new char[] {'c', 'e'}) {
        layBySums();
        for (int i = 0; i < count; i++) {
          h.phantom(i, 9, 0);
        }
        int half = (8 + count) / 2;
        is(whole('q', who, 'P'), 1);
        for (int i = 0; i < 8; i++) {
          is(h.facing(i), (i < half) == (who == 'c') ? 1 : 0);
        }
      }
    }
    // The last sum of the ones and the first one of the others are the same, among dancers, and with a phantom.
    layBySums();
    h.put(4, 0, -4, 0);
    refused('w', -1, 'q', 'c', '-');
    refused('w', -1, 'q', 'e', '-');
    h.phantom(0, 0, 0);
    h.phantom(0, 1, 0);
    is(whole('q', 'c', 'P'), 1);
    is(h.facing(2) + h.facing(3), 1);
    layBySums();
    h.phantom(0, 0, 0);
    h.phantom(0, 4, 0);
    refused('w', -1, 'q', 'c', 'P');
    is(whole('q', 'c', '-'), 1);
    // Even phantoms are lefts, odd ones rights; none is among heads and sides, though its number might tell so.
    for (char who : new char[] {'l', 'r', 'h', 's'}) {
      for (int odd = 0; odd < 2; odd++) {
        lay(9, 0, 0);
        h.skill(0, 0);
        if (odd == 1) {
          h.phantom(-9, 0, 0);
        }
        h.phantom(9, -1, 0);
        if (who == (odd == 0 ? 'l' : 'r')) {
          refused('b', 0, 'u', who, 'P');
        } else {
          is(whole('u', who, 'P'), 2);
        }
      }
    }
    lay(9, 0, 0);
    h.skill(0, 0);
    h.phantom(-9, 0, 0);
    h.phantom(-9, 3, 0);
    h.phantom(9, -1, 0);
    is(whole('u', 's', 'P'), 2);
    is(whole('u', 'h', 'P'), 2);
    refused('b', 0, 'u', 'l', 'P');
    // All of them by 'a'; and nobody else by each who on a square.
    String[] among = {"ahl", "ahr", "asl", "asr", "ahl", "ahr", "asl", "asr"};
    for (char who : "ahslr".toCharArray()) {
      h = new Callerhall();
      whole('q', who, '-');
      for (int i = 0; i < 8; i++) {
        is(h.turned(i), among[i].indexOf(who) >= 0 ? 1 : 0);
      }
    }
  }

  static void whoOfUnits() {
    // Two units at the places 3, 0 and -3, 0, two at 1, 3 and -1, 3: by these the first ones are the nearer half.
    lay(5, 0, 0, 7, 0, 0, -7, 0, 0, -5, 0, 0, 1, 3, 0, 3, 3, 0, -3, 3, 0, -1, 3, 0);
    is(whole('b', 'c', 'C'), 2);
    is(h.turned(0) + h.turned(1) + h.turned(2) + h.turned(3), 8);
    is(h.turned(4) + h.turned(5) + h.turned(6) + h.turned(7), 0);
    is(whole('b', 'e', 'C'), 2);
    is(h.turned(0) + h.turned(3), 0);
    is(h.turned(4) + h.turned(7), 4);
    h.put(4, 1, 2, 2);
    h.put(5, 3, 2, 2);
    refused('w', -1, 'b', 'c', 'C');
    // A unit is among some if both of it are: lefts of a head and a side are neither heads nor sides.
    layUp();
    h.change(1, 2);
    is(whole('b', 'l', 'C'), 2);
    is(h.turned(0) + " " + h.turned(2) + " " + h.turned(1), "2 2 0");
    is(whole('b', 'r', 'C'), 2);
    is(h.turned(0) + " " + h.turned(1) + " " + h.turned(3), "0 2 2");
    is(whole('b', 'h', 'C'), 2);
    is(h.turned(0) + " " + h.turned(4) + " " + h.turned(5), "0 2 2");
    is(whole('b', 's', 'C'), 2);
    is(h.turned(2) + " " + h.turned(6) + " " + h.turned(7), "0 2 2");
    h.change(5, 6);
    refused('w', -1, 'b', 'h', 'C');
    refused('w', -1, 'b', 's', 'C');
    is(whole('b', 'l', 'C'), 2);
  }

  /** Two rows of couples that all face up: for C the units of 0 and 1, 2 and 3, 4 and 5, 6 and 7. */
  private static void layUp() {
    lay(-3, -1, 0, -1, -1, 0, 1, -1, 0, 3, -1, 0, -3, 1, 0, -1, 1, 0, 1, 1, 0, 3, 1, 0);
  }

  // ---- acts

  private static final String ACTS = "uqpbgfhctwxro";
  private static final int[] PARTS = {2, 1, 1, 2, 2, 3, 1, 3, 2, 2, 1, 1, 1};
  private static final int[] LEVELS = {1, 1, 1, 1, 1, 2, 2, 3, 1, 2, 2, 3, 2};
  private static final int[] ONE = {0, 0, 0};
  private static final int[] FACES = {0, -1, 0, 0, 1, 2};
  private static final int[] WAVE = {-1, 0, 0, 1, 0, 2};
  private static final int[] LEFT_WAVE = {-1, 0, 2, 1, 0, 0};
  private static final int[] COUPLE = {-1, 0, 0, 1, 0, 0};
  private static final int[] BOX = {-1, -1, 0, -1, 1, 1, 1, 1, 2, 1, -1, 3};
  private static final int[][] STARTS = {ONE, ONE, ONE, ONE, FACES, FACES, WAVE, WAVE, WAVE, COUPLE, COUPLE, COUPLE, BOX};
  private static final String[] STOPS = {"0 2 0", "0 0 1", "0 0 3", "0 0 2", "0 1 0, 0 -1 2", "0 1 1, 0 -1 1", "0 1 1, 0 -1 3",
      "0 -1 3, 0 1 1", "1 0 2, -1 0 0", "1 0 2, -1 0 2", "1 0 0, -1 0 0", "1 0 2, -1 0 0", "-1 1 0, 1 1 1, 1 -1 2, -1 -1 3"};

  /** Some who dance each act alone: for 'r' one of both, for all others all. */
  private static char whoFor(char act) {
    return act == 'r' ? 'l' : 'a';
  }

  static void actsBySkill() {
    for (int i = 0; i < ACTS.length(); i++) {
      char act = ACTS.charAt(i);
      int count = STARTS[i].length / 3;
      is(h.parts(act) + " " + h.levelOf(act), PARTS[i] + " " + LEVELS[i]);
      // All of just the level dance it; all just below it stand, and it is danced all the same.
      for (int skill = LEVELS[i]; skill >= LEVELS[i] - 1; skill--) {
        lay(STARTS[i]);
        String before = first(count);
        for (int dancer = 0; dancer < count; dancer++) {
          h.skill(dancer, skill);
        }
        is(whole(act, whoFor(act), '-'), PARTS[i]);
        is(first(count), skill == LEVELS[i] ? STOPS[i] : before);
        is(h.calls(), 1);
        is(h.beats(), 2L * PARTS[i]);
        is(h.why(), '-');
      }
      // One below the level stands, and is nobody's partner, but in 'r'.
      for (int low = 0; low < count && count > 1; low++) {
        lay(STARTS[i]);
        h.skill(low, LEVELS[i] - 1);
        if (act == 'r') {
          is(whole(act, 'l', '-'), 1);
          is(first(2), low == 0 ? "-1 0 0, 1 0 0" : STOPS[i]);
        } else {
          refused('p', low == 0 ? 1 : 0, act, 'a', '-');
        }
      }
    }
  }

  static void actsByWhom() {
    for (int i = 0; i < ACTS.length(); i++) {
      char act = ACTS.charAt(i);
      // All others stand, and are nobody's partner.
      lay(STARTS[i]);
      if (STARTS[i].length == 3) {
        is(whole(act, 'r', '-'), PARTS[i]);
        is(at(0), "0 0 0");
      } else if (act == 'r') {
        is(whole(act, 'r', '-'), PARTS[i]);
        is(first(2), "1 0 0, -1 0 2");
        lay(STARTS[i]);
        refused('p', 0, act, 'a', '-');
      } else {
        refused('p', 0, act, 'l', '-');
        refused('p', 1, act, 'r', '-');
        refused('p', 0, act, STARTS[i].length > 6 ? 'h' : 'l', '-');
      }
    }
  }

  /** What is danced is the same, however all is turned. */
  static void actsTurned() {
    for (int i = 0; i < ACTS.length(); i++) {
      for (int turn = 1; turn < 4; turn++) {
        lay(STARTS[i]);
        h.turnAll(turn);
        is(whole(ACTS.charAt(i), whoFor(ACTS.charAt(i)), '-'), PARTS[i]);
        h.turnAll(4 - turn);
        is(first(STARTS[i].length / 3), STOPS[i]);
      }
    }
  }

  static void faceToFace() {
    for (int turn = 0; turn < 4; turn++) {
      for (int apart = 1; apart <= 6; apart++) {
        for (char act : new char[] {'g', 'f'}) {
          lay(0, 0, 0, 0, apart, 2);
          turnBy(turn);
          is(h.fits(act, 'a', '-'), apart == 2);
          is(h.fits(act, 'a', 'O'), apart == 4);
        }
      }
      for (int facing = 0; facing < 4; facing++) {
        lay(0, 0, 0, 0, 2, facing);
        turnBy(turn);
        is(h.fits('g', 'a', '-'), facing == 2);
      }
      for (int aside = -1; aside <= 1; aside++) {
        lay(0, 0, 0, aside, 2, 2);
        turnBy(turn);
        is(h.fits('g', 'a', '-'), aside == 0);
      }
    }
    // The first part goes half of the spacing ahead and 1 to the left, the second as far ahead and 1 to the right.
    lay(0, -1, 0, 0, 1, 2);
    h.dance('g', 'a', '-', 1, 2);
    is(first(2), "-1 0 0, 1 0 2");
    lay(0, -2, 0, 0, 2, 2);
    h.dance('g', 'a', 'O', 1, 2);
    is(first(2), "-1 0 0, 1 0 2");
    h.finish();
    is(first(2), "0 2 0, 0 -2 2");
    // The third part of f: lefts turn right, and rights left; two lefts turn alike.
    lay(0, -1, 0, 5, 5, 1, 0, 1, 2, 7, 5, 3);
    h.dance('f', 'a', '-', 2, 3);
    is(first(4), "0 1 0, 7 5 1, 0 -1 2, 5 5 3");
    h.finish();
    is(first(4), "0 1 1, 7 5 0, 0 -1 3, 5 5 2");
    // Partners are found ahead of the first part: behind it they are beside each other, and go on.
    lay(0, -1, 0, 0, 1, 2);
    h.define('A', 2000, 'g', 'a', '-');
    h.define('A', 2000, 'g', 'a', '-');
    is(h.dance('A', 'a', '-', 1, 2), 2);
    refused('p', 0, 'A', 'a', '-');
  }

  private static void turnBy(int turn) {
    if (turn > 0) {
      h.turnAll(turn);
    }
  }

  static void rows() {
    // Rows go as far as they can, and are parted two by two from the least x, or y, on; an odd last one has none.
    for (int turn = 0; turn < 2; turn++) {
      for (int count = 1; count <= 8; count++) {
        int[] places = new int[3 * count];
        for (int i = 0; i < count; i++) {
          // The last dancer is at the least place; they face up, down, down, up, and so on.
          places[3 * i] = turn == 0 ? 2 * (count - 1 - i) - 7 : 0;
          places[3 * i + 1] = turn == 0 ? 0 : 2 * (count - 1 - i) - 7;
          places[3 * i + 2] = (i / 2 % 2 == 0 ? 0 : 2) + turn;
        }
        lay(places);
        for (int i = 0; i < count; i++) {
          // Pairs from the least place on, which is that of the last one.
          int rank = count - 1 - i;
          int mate = rank % 2 == 0 ? rank + 1 : rank - 1;
          int who = i;
          is(answer(() -> h.partner(who, false, 2)), mate < count ? (Object) (count - 1 - mate) : ELEMENT);
        }
        if (count % 2 == 0) {
          is(whole('x', 'a', '-'), 1);
        } else {
          refused('p', 0, 'x', 'a', '-');
        }
      }
    }
    // Beside each other by the spacing, neither nearer nor farther, and not aside.
    for (int apart = 1; apart <= 6; apart++) {
      lay(0, 0, 0, apart, 0, 0);
      is(h.fits('x', 'a', '-'), apart == 2);
      is(h.fits('x', 'a', 'O'), apart == 4);
      lay(0, 0, 1, 0, apart, 3);
      is(h.fits('x', 'a', '-'), apart == 2);
      is(h.fits('x', 'a', 'O'), apart == 4);
      lay(0, 0, 0, 2, apart - 3, 0);
      is(h.fits('x', 'a', '-'), apart == 3);
    }
    // One who faces along ends a row; so does one who does not dance, and a gap.
    lay(-3, 0, 0, -1, 0, 1, 1, 0, 0, 3, 0, 2);
    refused('p', 0, 'x', 'a', '-');
    lay(-5, 0, 0, -3, 0, 0, -1, 0, 3, 1, 0, 0, 3, 0, 2);
    refused('p', 2, 'x', 'a', '-');
    h.skill(2, 0);
    is(whole('x', 'a', '-'), 1);
    is(first(5), "-3 0 0, -5 0 0, -1 0 3, 3 0 0, 1 0 2");
    lay(-5, 0, 0, -3, 0, 0, 1, 0, 0, 3, 0, 2);
    is(whole('x', 'a', '-'), 1);
    // From the least y on, whatever x they have, and whoever is where.
    for (int x = -6; x <= 6; x++) {
      lay(x, 5, 1, x, 3, 3, x, 1, 1);
      refused('p', 0, 'x', 'a', '-');
      lay(x, 1, 1, x, 5, 3, x, 3, 1);
      refused('p', 1, 'x', 'a', '-');
      lay(x, -5, 1, x, -3, 3, x, -1, 1);
      refused('p', 2, 'x', 'a', '-');
    }
    // Another row beside it, nearer than the spacing, has no part in it.
    lay(-1, 0, 0, 1, 0, 0, -1, 1, 0, 1, 1, 0);
    is(whole('x', 'a', '-'), 1);
    is(first(4), "1 0 0, -1 0 0, 1 1 0, -1 1 0");
  }

  static void turning() {
    // A couple does not fit h and c, a wave does not fit w; each fits t and x.
    int[][] pairs = {COUPLE, WAVE, LEFT_WAVE};
    for (int i = 0; i < 3; i++) {
      lay(pairs[i]);
      is(h.fits('h', 'a', '-'), i > 0);
      is(h.fits('c', 'a', '-'), i > 0);
      is(h.fits('w', 'a', '-'), i == 0);
      is(h.fits('t', 'a', '-'), true);
      is(h.fits('x', 'a', '-'), true);
      is(h.pair(0), "crl".charAt(i));
    }
    // A left wave turns to the left, others to the right, a couple by w to the left; part by part.
    String[] right = {"0 1 1, 0 -1 3", "1 0 2, -1 0 0", "0 -1 3, 0 1 1"};
    String[] left = {"0 -1 1, 0 1 3", "1 0 0, -1 0 2", "0 1 3, 0 -1 1"};
    for (int parts = 1; parts <= 3; parts++) {
      lay(WAVE);
      h.dance('c', 'a', '-', parts, 3);
      is(first(2), right[parts - 1]);
      is(h.turned(0) + " " + h.turned(1), parts + " " + parts);
      lay(LEFT_WAVE);
      h.dance('c', 'a', '-', parts, 3);
      is(first(2), left[parts - 1]);
      is(h.turned(0) + " " + h.turned(1), -parts + " " + -parts);
    }
    String[] couple = {"0 1 1, 0 -1 1", "1 0 2, -1 0 2"};
    String[] wheel = {"0 -1 3, 0 1 3", "1 0 2, -1 0 2"};
    for (int parts = 1; parts <= 2; parts++) {
      lay(WAVE);
      h.dance('t', 'a', '-', parts, 2);
      is(first(2), right[parts - 1]);
      lay(LEFT_WAVE);
      h.dance('t', 'a', '-', parts, 2);
      is(first(2), left[parts - 1]);
      lay(COUPLE);
      h.dance('t', 'a', '-', parts, 2);
      is(first(2), couple[parts - 1]);
      lay(COUPLE);
      h.dance('w', 'a', '-', parts, 2);
      is(first(2), wheel[parts - 1]);
      is(h.turned(0), -parts);
    }
    lay(LEFT_WAVE);
    whole('h', 'a', '-');
    is(first(2), left[0]);
    // By the spacing 4 they turn around their own midst.
    lay(-2, 0, 0, 2, 0, 2);
    whole('h', 'a', 'O');
    is(first(2), "0 2 1, 0 -2 3");
    // Those who change places face as before.
    lay(WAVE);
    whole('x', 'a', '-');
    is(first(2), "1 0 0, -1 0 2");
  }

  static void runs() {
    // The partner must be one who does not dance: by rows of all bodies, from the least place on.
    lay(-3, 0, 0, -1, 0, 0, 1, 0, 0, 3, 0, 2);
    is(h.fits('r', 'l', '-'), true);
    is(h.fits('r', 'r', '-'), true);
    is(h.fits('r', 'a', '-'), false);
    is(h.fits('r', 'h', '-'), false);
    refused('p', 0, 'r', 'h', '-');
    refused('p', 2, 'r', 's', '-');
    is(whole('r', 'r', '-'), 1);
    is(first(4), "-1 0 0, -3 0 2, 3 0 0, 1 0 0");
    is(h.turned(1) + " " + h.turned(3) + " " + h.turned(0), "2 2 0");
    // An odd last one has none, if it dances; if it does not, all is well.
    lay(-1, 0, 0, 1, 0, 0, 3, 0, 0);
    refused('p', 2, 'r', 'l', '-');
    is(whole('r', 'r', '-'), 1);
    is(first(3), "1 0 0, -1 0 2, 3 0 0");
    // One below the level stands in it, and may be a partner: of a row of two, one, none or both.
    lay(COUPLE);
    h.skill(1, 2);
    is(whole('r', 'a', '-'), 1);
    is(first(2), "1 0 2, -1 0 0");
    h.skill(0, 2);
    is(whole('r', 'a', '-'), 1);
    is(first(2), "1 0 2, -1 0 0");
    // One who faces along is no partner.
    lay(-1, 0, 0, 1, 0, 1);
    refused('p', 0, 'r', 'l', '-');
    // The spacing, and parted rows.
    lay(-1, 0, 0, 3, 0, 0);
    refused('p', 0, 'r', 'l', '-');
    refused('p', 0, 'r', 'l', 'X');
    is(whole('r', 'l', 'O'), 1);
    is(first(2), "3 0 2, -1 0 0");
    lay(COUPLE);
    refused('p', 0, 'r', 'l', 'X');
    refused('p', 0, 'r', 'l', 'Y');
  }

  private static final int[] CORNER_X = {-1, -1, 1, 1};
  private static final int[] CORNER_Y = {-1, 1, 1, -1};

  static void boxes() {
    // Each goes ahead, if that is a corner of the box, otherwise to the one on its right or left, and turns back:
    // around to the right, ahead and by who faces out; then to the left.
    int[][] facings = {{0, 1, 2, 3}, {3, 0, 1, 2}, {1, 2, 3, 0}, {2, 3, 0, 1}};
    for (int way = 0; way < 4; way++) {
      for (int size = 1; size <= 2; size++) {
        for (int shift = 0; shift < 4; shift++) {
          int[] places = new int[12];
          for (int i = 0; i < 4; i++) {
            int corner = (i + shift) % 4;
            places[3 * i] = size * CORNER_X[corner];
            places[3 * i + 1] = size * CORNER_Y[corner];
            places[3 * i + 2] = facings[way][corner];
          }
          lay(places);
          is(whole('o', 'a', size == 1 ? '-' : 'O'), 1);
          boolean isOut = way % 2 == 1;
          for (int i = 0; i < 4; i++) {
            int to = (i + shift + (way < 2 ? 1 : 3)) % 4;
            int facing = (places[3 * i + 2] + (isOut ? 2 : 0)) % 4;
            is(at(i), size * CORNER_X[to] + " " + size * CORNER_Y[to] + " " + facing);
            is(h.turned(i), isOut ? 2 : 0);
          }
        }
      }
    }
    // Without one of the corners there is no box; nor with one who stands there.
    for (int gone = 0; gone < 4; gone++) {
      lay(BOX);
      h.skill(gone, 1);
      refused('p', gone == 0 ? 1 : 0, 'o', 'a', '-');
      h.skill(gone, 2);
      is(h.fits('o', 'a', '-'), true);
      h.put(gone, 7, 7, 0);
      refused('p', 0, 'o', 'a', '-');
    }
    // A square with sides of the spacing, upright.
    for (int wide = 1; wide <= 5; wide++) {
      for (int high = 1; high <= 5; high++) {
        lay(0, 0, 0, 0, high, 1, wide, 0, 3, wide, high, 2);
        is(h.fits('o', 'a', '-'), wide == 2 && high == 2);
        is(h.fits('o', 'a', 'O'), wide == 4 && high == 4);
      }
    }
    lay(0, -2, 0, 0, 2, 0, -2, 0, 0, 2, 0, 0);
    is(h.fits('o', 'a', '-'), false);
    is(h.fits('o', 'a', 'O'), false);
    lay(0, -1, 0, 0, 1, 0, -1, 0, 0, 1, 0, 0);
    is(h.fits('o', 'a', '-'), false);
  }

  static void boxesInOrder() {
    // Of two that share a corner, the one of the least x is taken, then of the least y; each body is in one alone.
    lay(2, 0, 0, 0, 2, 0, 2, 2, 0, 4, 0, 0, 0, 4, 0, 2, 4, 0, 4, 2, 0);
    refused('p', 0, 'o', 'a', '-');
    lay(0, 2, 0, 2, 0, 0, 2, 2, 0, 0, 4, 0, 4, 0, 0, 4, 2, 0, 2, 4, 0);
    refused('p', 1, 'o', 'a', '-');
    lay(0, 4, 0, 0, 0, 0, 2, 0, 0, 0, 2, 0, 2, 2, 0, 2, 4, 0);
    refused('p', 0, 'o', 'a', '-');
    lay(0, 0, 0, 2, 0, 0, 0, 2, 0, 2, 2, 0, 2, 4, 0, 0, 4, 0);
    refused('p', 4, 'o', 'a', '-');
    lay(4, 0, 0, 4, 2, 0, 2, 0, 0, 2, 2, 0, 0, 0, 0, 0, 2, 0);
    refused('p', 0, 'o', 'a', '-');
    // Two boxes beside each other, and above each other, are two.
    lay(0, 0, 0, 0, 2, 1, 2, 2, 2, 2, 0, 3, 4, 0, 0, 4, 2, 1, 6, 2, 2, 6, 0, 3);
    is(whole('o', 'a', '-'), 1);
    is(all(), "0 2 0, 2 2 1, 2 0 2, 0 0 3, 4 2 0, 6 2 1, 6 0 2, 4 0 3");
    lay(0, 0, 0, 0, 2, 1, 2, 2, 2, 2, 0, 3, 0, 4, 0, 0, 6, 1, 2, 6, 2, 2, 4, 3);
    is(whole('o', 'a', '-'), 1);
    is(all(), "0 2 0, 2 2 1, 2 0 2, 0 0 3, 0 6 0, 2 6 1, 2 4 2, 0 4 3");
  }

  static void misfits() {
    // The lowest one that does not fit, wherever it is: each of eight by itself.
    for (int odd = 0; odd < 8; odd++) {
      h = new Callerhall();
      for (int i = 0; i < 8; i++) {
        h.skill(i, 1);
      }
      h.put(odd, h.x(odd), h.y(odd), (h.facing(odd) + 1) % 4);
      refused('p', odd % 2 == 0 ? odd : odd - 1, 't', 'a', '-');
      h.skill(odd % 2 == 0 ? odd + 1 : odd - 1, 0);
      refused('p', odd, 't', 'a', '-');
      h.skill(odd, 0);
      is(whole('t', 'a', '-'), 2);
    }
  }

  // ---- collisions

  static void collisions() {
    // Two who face each other's way, both having moved, pass by the left: up and down, right and left.
    for (int turn = 0; turn < 4; turn++) {
      lay(0, -1, 0, 0, 1, 2);
      turnBy(turn);
      h.dance('u', 'a', '-', 1, 2);
      turnBy((4 - turn) % 4);
      is(first(2), "-1 0 0, 1 0 2");
      for (int facing = 0; facing < 4; facing++) {
        // One comes to the midst facing up, another one facing otherwise.
        int[] fromX = {0, -1, 0, 1};
        int[] fromY = {-1, 0, 1, 0};
        if (facing > 0) {
          lay(0, -1, 0, fromX[facing], fromY[facing], facing);
          turnBy(turn);
          if (facing == 2) {
            is(h.dance('u', 'a', '-', 1, 2), 1);
          } else {
            fails(UNSUPPORTED, () -> h.dance('u', 'a', '-', 1, 2));
            reasonIs('b', 0);
          }
        }
      }
      // One of both stands, whichever it is.
      lay(0, -1, 0, 0, 0, 2);
      turnBy(turn);
      h.skill(1, 0);
      refused('b', 0, 'u', 'a', '-');
      lay(0, 0, 0, 0, 1, 2);
      turnBy(turn);
      h.skill(0, 0);
      refused('b', 0, 'u', 'a', '-');
    }
    // Both only turned: a dancer and a phantom at one place, facing each other's way then.
    lay(0, 0, 0);
    h.phantom(0, 0, 2);
    refused('b', 0, 'q', 'a', 'P');
    // One moved there, the other one only turned.
    lay(0, -1, 0, 0, 0, 3);
    h.define('A', 2000, 'u', 'l', '-');
    h.define('A', 2000, 'p', 'r', '-');
    refused('b', 0, 'A', 'a', '-');
    // They are not where another one is, but beside it.
    lay(0, -1, 0, 1, 0, 2);
    h.skill(1, 0);
    is(h.dance('u', 'a', '-', 1, 2), 1);
  }

  static void collisionsOfThree() {
    // Two, and no third one: a third one that came too, or stands there.
    lay(0, -1, 0, 0, 1, 2, 1, 0, 3);
    refused('b', 0, 'u', 'a', '-');
    lay(5, 5, 0, 0, -1, 0, 0, 1, 2, 0, 0, 1);
    h.skill(3, 0);
    refused('b', 1, 'u', 'a', '-');
    // One of those who pass comes to where another one stands; to where another one just came; or to a free place.
    lay(0, -1, 0, 0, 1, 2, -1, 0, 0);
    h.skill(2, 0);
    refused('b', 0, 'u', 'a', '-');
    lay(0, -1, 0, 0, 1, 2, 2, 0, 3);
    fails(UNSUPPORTED, () -> h.dance('u', 'a', '-', 1, 2));
    reasonIs('b', 1);
    lay(0, -1, 0, 0, 1, 2, -2, 0, 0);
    is(h.dance('u', 'a', '-', 1, 2), 1);
    is(first(3), "-1 0 0, 1 0 2, -2 1 0");
    // Two pairs pass at once, beside each other: each leaves the place that one of the other pair comes to.
    lay(0, -1, 0, 0, 1, 2, 1, -1, 0, 1, 1, 2);
    is(h.dance('u', 'a', '-', 1, 2), 1);
    is(first(4), "-1 0 0, 1 0 2, 0 0 0, 2 0 2");
    // If both pairs come to one place by it, they do not pass again.
    lay(0, -1, 0, 0, 1, 2, 2, -1, 0, 2, 1, 2);
    fails(UNSUPPORTED, () -> h.dance('u', 'a', '-', 1, 2));
    reasonIs('b', 1);
  }

  static void collisionsInParts() {
    // Behind each part: in the second one, or in both.
    lay(0, -2, 0, 0, 2, 2);
    is(h.dance('u', 'a', '-', 1, 2), 1);
    is(first(2), "0 -1 0, 0 1 2");
    is(h.finish(), 1);
    is(first(2), "-1 0 0, 1 0 2");
    lay(0, -2, 0, 0, 0, 2);
    h.skill(1, 0);
    is(h.dance('u', 'a', '-', 1, 2), 1);
    fails(UNSUPPORTED, () -> h.finish());
    reasonIs('b', 0);
    // Moved in this part, not in an earlier one: one goes on to where the other one came to and stopped.
    lay(0, -4, 0, 0, 2, 2);
    h.define('A', 2000, 'u', 'r', '-');
    h.define('A', 2000, 'u', 'l', '-');
    h.define('A', 2000, 'u', 'l', '-');
    is(h.dance('A', 'a', '-', 5, 6), 5);
    refused('b', 0, 'A', 'a', '-');
    h.put(1, 0, 1, 2);
    h.put(0, 0, -1, 0);
    h.define('B', 2000, 'u', 'a', '-');
    is(whole('B', 'a', '-'), 2);
    is(first(2), "-1 1 0, 1 -1 2");
    // What cannot be leaves all where they were.
    lay(0, -2, 0, 0, 0, 2);
    h.skill(1, 0);
    refused('b', 0, 'u', 'a', '-');
    is(first(2), "0 -2 0, 0 0 2");
    is(h.calls(), 0);
  }

  // ---- concepts

  static void partedByX() {
    for (int x = -5; x <= 3; x++) {
      boolean isOneSide = x + 2 < 0 || x > 0;
      lay(x, 5, 0, x + 2, 5, 0);
      is(h.fits('x', 'a', 'X'), isOneSide);
      is(h.fits('t', 'a', 'X'), isOneSide);
      is(h.fits('r', 'l', 'X'), isOneSide);
      is(h.fits('x', 'a', '-'), true);
      is(h.fits('q', 'a', 'X'), true);
      is(h.fits('x', 'a', 'Y'), true);
      lay(x, 5, 1, x + 2, 5, 3);
      is(h.fits('g', 'a', 'X'), isOneSide);
      lay(x, 5, 0, x, 7, 1, x + 2, 5, 3, x + 2, 7, 2);
      is(h.fits('o', 'a', 'X'), isOneSide);
      is(h.fits('o', 'a', 'Y'), true);
      // Above each other, all have the same x: just 0 is on no side.
      lay(x, 5, 1, x, 7, 1);
      is(h.fits('x', 'a', 'X'), x != 0);
      lay(x, 5, 0, x, 7, 2);
      is(h.fits('g', 'a', 'X'), x != 0);
    }
    // Rows are made on each side: three and three, of which the last one of each side has none.
    lay(-5, 1, 0, -3, 1, 0, -1, 1, 0, 1, 1, 0, 3, 1, 0, 5, 1, 0);
    is(h.fits('x', 'a', '-'), true);
    refused('p', 2, 'x', 'a', 'X');
    h.skill(2, 0);
    refused('p', 5, 'x', 'a', 'X');
    h.skill(5, 0);
    is(whole('x', 'a', 'X'), 1);
    is(first(6), "-3 1 0, -5 1 0, -1 1 0, 3 1 0, 1 1 0, 5 1 0");
  }

  static void partedByY() {
    for (int y = -5; y <= 3; y++) {
      boolean isOneSide = y + 2 < 0 || y > 0;
      lay(5, y, 1, 5, y + 2, 1);
      is(h.fits('x', 'a', 'Y'), isOneSide);
      is(h.fits('r', 'l', 'Y'), isOneSide);
      is(h.fits('x', 'a', 'X'), true);
      is(h.fits('q', 'a', 'Y'), true);
      lay(5, y, 0, 5, y + 2, 2);
      is(h.fits('g', 'a', 'Y'), isOneSide);
      is(h.fits('g', 'a', 'X'), true);
      lay(5, y, 0, 5, y + 2, 1, 7, y, 3, 7, y + 2, 2);
      is(h.fits('o', 'a', 'Y'), isOneSide);
      is(h.fits('o', 'a', 'X'), true);
      lay(5, y, 0, 7, y, 0);
      is(h.fits('x', 'a', 'Y'), y != 0);
      lay(5, y, 1, 7, y, 3);
      is(h.fits('g', 'a', 'Y'), y != 0);
    }
    lay(1, -5, 1, 1, -3, 1, 1, -1, 1, 1, 1, 1, 1, 3, 1, 1, 5, 1);
    refused('p', 2, 'x', 'a', 'Y');
    h.skill(2, 0);
    refused('p', 5, 'x', 'a', 'Y');
  }

  static void wide() {
    // The spacing is 4: for partners of each kind, and boxes; how far one goes alone stays.
    lay(0, 0, 0);
    whole('u', 'a', 'O');
    is(at(0), "0 2 0");
    lay(-2, 0, 0, 2, 0, 2);
    is(whole('t', 'a', 'O'), 2);
    is(first(2), "2 0 2, -2 0 0");
    lay(-2, 0, 0, 0, 0, 0, 2, 0, 0, 4, 0, 0);
    is(whole('x', 'a', 'O'), 1);
    is(first(4), "2 0 0, 4 0 0, -2 0 0, 0 0 0");
    lay(0, 0, 0, 4, 0, 0, 8, 0, 0);
    refused('p', 2, 'x', 'a', 'O');
    lay(0, -2, 0, 0, 2, 2);
    is(whole('f', 'a', 'O'), 3);
    is(first(2), "0 2 1, 0 -2 1");
  }

  static void phantoms() {
    // They are bodies behind all others, of skill 3, in a call that has the concept, and in no other.
    lay(-1, 0, 0);
    h.phantom(1, 0, 0);
    for (char act : new char[] {'x', 't', 'w'}) {
      is(h.fits(act, 'a', 'P'), true);
      is(h.fits(act, 'a', '-'), false);
    }
    is(h.fits('r', 'l', 'P'), false);
    is(h.fits('r', 's', 'P'), true);
    // One is in the way with the concept alone; and behind such a call nobody is where it was, or went.
    lay(0, -1, 0);
    h.phantom(0, 1, 0);
    is(h.fits('u', 'h', 'P'), false);
    is(whole('u', 'h', '-'), 2);
    is(at(0), "0 1 0");
    refused('b', 0, 'q', 'h', 'P');
    h.put(0, 0, -3, 0);
    is(whole('u', 'h', 'P'), 2);
    is(at(0), "0 -1 0");
    // It begins where it was told in the next one, though it went ahead in the one before.
    lay(5, 5, 0);
    h.phantom(0, 0, 0);
    is(whole('u', 'a', 'P'), 2);
    h.put(0, 0, -1, 0);
    refused('b', 0, 'u', 'h', 'P');
    h.put(0, 0, 1, 0);
    is(whole('u', 'h', 'P'), 2);
    // On an act of a call: gone behind it, and at its place again in the next one that has it.
    lay(0, 2, 0);
    h.phantom(0, 0, 0);
    h.define('A', 2000, 'u', 'l', 'P');
    refused('p', -1, 'A', 'a', 'T');
    h.skill(0, 0);
    refused('b', 0, 'A', 'a', '-');
    h.put(0, 0, 3, 0);
    h.define('A', 2000, 'u', 'l', 'P');
    is(whole('A', 'a', '-'), 4);
    refused('b', 0, 'A', 'a', 'P');
    // A fraction has them too, and what is left of it begins with the whole call.
    lay(-1, 0, 0);
    h.phantom(1, 0, 2);
    is(h.dance('c', 'a', 'P', 1, 3), 1);
    is(at(0), "0 1 1");
    is(h.finish(), 2);
    is(at(0), "0 -1 3");
    // Within it, each act has its own concept; and P within P adds none.
    lay(1, 1, 0);
    h.phantom(5, 1, 0);
    for (char concept : "OXYP-".toCharArray()) {
      h.forget('A');
      h.define('A', 2000, 'x', 'a', concept);
      is(answer(() -> h.dance('A', 'a', 'P', 1, 1)), concept == 'O' ? (Object) 1 : UNSUPPORTED);
      h.put(0, 1, 1, 0);
    }
    h.clearPhantoms();
    h.phantom(-1, 1, 0);
    for (char concept : "OXYP-".toCharArray()) {
      h.forget('A');
      h.define('A', 2000, 'x', 'a', concept);
      is(answer(() -> h.dance('A', 'a', 'P', 1, 1)), concept == 'O' || concept == 'X' ? UNSUPPORTED : (Object) 1);
      h.put(0, 1, 1, 0);
    }
    // A phantom is in a unit as others are; on an act within units, it is beside them.
    lay(-3, -1, 0, -1, -1, 0, 1, -1, 0, 3, -1, 0, -3, 1, 0, -1, 1, 0, 1, 1, 0, 3, 1, 0);
    h.phantom(5, 5, 0);
    h.define('A', 2000, 'b', 'a', 'C');
    refused('p', -1, 'A', 'a', 'P');
    h.phantom(7, 5, 0);
    is(whole('A', 'a', 'P'), 2);
    h.define('B', 2000, 'b', 'a', 'P');
    is(whole('B', 'a', 'C'), 2);
    h.phantom(-1, 1, 0);
    refused('b', 4, 'B', 'a', 'C');
    // With none told there are none.
    h.clearPhantoms();
    is(whole('q', 'a', 'P'), 1);
  }

  /** Four units of T that face up, beside each other: 0 is ahead of 1, 2 of 3, 4 of 5, 6 of 7. */
  private static void layTandem() {
    lay(-3, 1, 0, -3, -1, 0, -1, 1, 0, -1, -1, 0, 1, 1, 0, 1, -1, 0, 3, 1, 0, 3, -1, 0);
  }

  static void tandems() {
    for (int turn = 0; turn < 4; turn++) {
      layTandem();
      turnBy(turn);
      is(whole('x', 'a', 'T'), 1);
      turnBy((4 - turn) % 4);
      is(all(), "-1 1 0, -1 -1 0, -3 1 0, -3 -1 0, 3 1 0, 3 -1 0, 1 1 0, 1 -1 0");
      // All must be in units: one behind the other by 2, not by 1 or 3, not aside, and facing alike.
      int[][] elsewhere = {{3, 0, 0}, {3, -2, 0}, {2, -1, 0}, {4, -1, 0}, {3, 3, 0}, {3, -1, 1}, {3, -1, 2}, {3, -1, 3}};
      for (int[] place : elsewhere) {
        layTandem();
        h.put(7, place[0], place[1], place[2]);
        turnBy(turn);
        is(h.fits('q', 'a', 'T'), place[1] == 3);
      }
      // Units that face the other way lie along the same; units that face aside do not.
      layTandem();
      h.put(6, 3, 1, 2);
      h.put(7, 3, -1, 2);
      turnBy(turn);
      is(h.fits('b', 'a', 'T'), true);
      layTandem();
      h.put(6, 3, 0, 1);
      h.put(7, 5, 0, 1);
      turnBy(turn);
      is(h.fits('b', 'a', 'T'), false);
    }
    // Columns are parted two by two from the least place: four in one are two units, three and one are none.
    lay(-1, -3, 0, -1, -1, 0, -1, 1, 0, -1, 3, 0, 1, 3, 2, 1, 1, 2, 1, -1, 2, 1, -3, 2);
    is(whole('b', 'h', 'T'), 2);
    is(h.turned(0) + " " + h.turned(1) + " " + h.turned(2) + " " + h.turned(3), "2 2 0 0");
    lay(-1, -3, 0, -1, -1, 0, -1, 1, 0, -1, 5, 0, 1, 3, 2, 1, 1, 2, 1, -1, 2, 1, -3, 2);
    refused('p', -1, 'b', 'h', 'T');
    // A unit dances if the skills of both do for the act.
    for (int low = 0; low < 2; low++) {
      layTandem();
      h.skill(low, 1);
      refused('p', 6, 'x', 'a', 'T');
      h.skill(2 + low, 1);
      is(whole('x', 'a', 'T'), 1);
      is(at(0) + ", " + at(4), "-3 1 0, 3 1 0");
    }
  }

  static void tandemHalves() {
    // The half of the midst along which units lie must be whole; across it, any place is good.
    for (int mid = -4; mid <= 4; mid++) {
      for (int turn = 0; turn < 4; turn++) {
        lay(-3, mid + 1, 0, -3, mid - 1, 0, -1, mid + 1, 0, -1, mid - 1, 0, 2, mid + 1, 0, 2, mid - 1, 0, 5, mid + 1, 0, 5, mid - 1, 0);
        turnBy(turn);
        is(h.fits('q', 'a', 'T'), mid % 2 == 0);
        lay(mid - 1, -3, 0, mid + 1, -3, 0, mid - 1, -1, 0, mid + 1, -1, 0, mid - 1, 2, 0, mid + 1, 2, 0, mid - 1, 4, 0, mid + 1, 4, 0);
        turnBy(turn);
        is(h.fits('q', 'a', 'C'), mid % 2 == 0);
      }
    }
  }

  static void couples() {
    for (int turn = 0; turn < 4; turn++) {
      layUp();
      turnBy(turn);
      is(whole('x', 'a', 'C'), 1);
      turnBy((4 - turn) % 4);
      is(all(), "1 -1 0, 3 -1 0, -3 -1 0, -1 -1 0, 1 1 0, 3 1 0, -3 1 0, -1 1 0");
      int[][] elsewhere = {{2, 1, 0}, {4, 1, 0}, {3, 2, 0}, {3, 0, 0}, {3, 1, 1}, {3, 1, 2}, {3, 1, 3}};
      for (int[] place : elsewhere) {
        layUp();
        h.put(7, place[0], place[1], place[2]);
        turnBy(turn);
        is(h.fits('q', 'a', 'C'), false);
      }
      // Couples that face the other way lie along the same, couples that face aside do not.
      layUp();
      h.put(6, 1, 1, 2);
      h.put(7, 3, 1, 2);
      turnBy(turn);
      is(h.fits('b', 'a', 'C'), true);
      layUp();
      h.put(6, 5, 2, 1);
      h.put(7, 5, 0, 1);
      turnBy(turn);
      is(h.fits('b', 'a', 'C'), false);
    }
    // Rows of all bodies, whoever dances: those below the level are in units too.
    layUp();
    h.skill(0, 0);
    h.skill(1, 0);
    h.skill(2, 0);
    h.skill(3, 0);
    is(whole('x', 'a', 'C'), 1);
    is(all(), "-3 -1 0, -1 -1 0, 1 -1 0, 3 -1 0, 1 1 0, 3 1 0, -3 1 0, -1 1 0");
    // A row of a couple between two others is parted from the least place: its pairs are no couples.
    lay(-3, -1, 0, -1, -1, 2, 1, -1, 2, 3, -1, 0, -3, 1, 0, -1, 1, 0, 1, 1, 0, 3, 1, 0);
    refused('p', -1, 'q', 'a', 'C');
  }

  static void unitNumbers() {
    // A unit's number is that of its front, or left: told by whom(), for each unit and each way all face.
    for (int turn = 0; turn < 4; turn++) {
      for (int unit = 0; unit < 4; unit++) {
        for (char concept : new char[] {'T', 'C'}) {
          for (int swap = 0; swap < 2; swap++) {
            if (concept == 'T') {
              layTandem();
            } else {
              layUp();
            }
            turnBy(turn);
            if (swap == 1) {
              h.change(2 * unit, 2 * unit + 1);
            }
            for (int i = 0; i < 8; i++) {
              h.skill(i, i / 2 == unit ? 2 : 1);
            }
            refused('p', 2 * unit + swap, 'h', 'a', concept);
          }
        }
      }
    }
    // By it units count as lefts and rights in f: those of 0 and 1, 4 and 5, 6 and 7 are lefts, that of 3 and 2 a right.
    lay(-3, -2, 0, -1, -2, 0, -3, 0, 2, -1, 0, 2, 5, -2, 0, 7, -2, 0, 7, 0, 2, 5, 0, 2);
    is(h.dance('f', 'a', 'C', 2, 3), 2);
    is(all(), "-3 0 0, -1 0 0, -3 -2 2, -1 -2 2, 5 0 0, 7 0 0, 7 -2 2, 5 -2 2");
    is(h.finish(), 1);
    is(all(), "-1 1 1, -1 -1 1, -1 -5 1, -1 -3 1, 3 1 1, 3 -1 1, 3 -5 3, 3 -3 3");
  }

  static void behindUnits() {
    // Behind a quarter, units of T lie along the way that they face, those of C across it.
    layTandem();
    is(whole('q', 'a', 'T'), 1);
    is(all(), "-5 0 1, -7 0 1, -1 0 1, -3 0 1, 3 0 1, 1 0 1, 7 0 1, 5 0 1");
    layTandem();
    is(whole('p', 'a', 'T'), 1);
    is(all(), "-7 0 3, -5 0 3, -3 0 3, -1 0 3, 1 0 3, 3 0 3, 5 0 3, 7 0 3");
    layUp();
    is(whole('q', 'a', 'C'), 1);
    is(all(), "-1 -1 1, -1 -3 1, 1 -1 1, 1 -3 1, -1 3 1, -1 1 1, 1 3 1, 1 1 1");
    layUp();
    is(whole('p', 'a', 'C'), 1);
    is(all(), "-1 -3 3, -1 -1 3, 1 -3 3, 1 -1 3, -1 1 3, -1 3 3, 1 1 3, 1 3 3");
    // They must all lie one way: none or all by a quarter, some by two, but not some by one.
    layTandem();
    refused('p', -1, 'q', 'h', 'T');
    refused('p', -1, 'q', 's', 'T');
    is(whole('b', 'h', 'T'), 2);
    is(all(), "-3 -1 2, -3 1 2, -1 1 0, -1 -1 0, 1 -1 2, 1 1 2, 3 1 0, 3 -1 0");
    layUp();
    refused('p', -1, 'p', 'h', 'C');
    refused('p', -1, 'p', 's', 'C');
    is(whole('b', 's', 'C'), 2);
    is(all(), "-3 -1 0, -1 -1 0, 3 -1 2, 1 -1 2, -3 1 0, -1 1 0, 3 1 2, 1 1 2");
    // The first unit, or the last one, alone.
    for (int unit = 0; unit < 4; unit++) {
      layUp();
      for (int i = 0; i < 8; i++) {
        h.skill(i, i / 2 == unit ? 1 : 0);
      }
      refused('p', -1, 'q', 'a', 'C');
      is(whole('b', 'a', 'C'), 2);
    }
  }

  /** A couple that faces up and one that faces down, whose units come to 1, 0 and 2, 0 by one part; the others far. */
  private static void layMeeting() {
    lay(1, -1, 0, 3, -1, 0, 5, 1, 2, 3, 1, 2, -7, 9, 0, -5, 9, 0, -7, -9, 0, -5, -9, 0);
    for (int i = 4; i < 8; i++) {
      h.skill(i, 0);
    }
  }

  static void collisionsOfUnits() {
    // Units beside each other by 1 do not collide, but those in them do: 1 and 3 are at 3, 0, and pass by the left.
    layMeeting();
    is(h.dance('u', 'a', 'C', 1, 2), 1);
    is(first(4), "1 0 0, 2 0 0, 5 0 2, 4 0 2");
    // As behind a part: if one of both has not moved, or faces otherwise, or a third one is there, it cannot be.
    layMeeting();
    h.skill(2, 0);
    h.put(2, 5, 0, 2);
    h.put(3, 3, 0, 2);
    fails(UNSUPPORTED, () -> h.dance('u', 'a', 'C', 1, 2));
    reasonIs('b', 1);
    lay(1, -2, 0, 3, -2, 0, 3, -4, 0, 5, -4, 0, -7, 9, 0, -5, 9, 0, -7, -9, 0, -5, -9, 0);
    h.define('A', 2000, 'u', 's', '-');
    h.define('A', 2000, 'u', 's', '-');
    h.define('A', 2000, 'u', 'h', '-');
    for (int i = 4; i < 8; i++) {
      h.skill(i, 0);
    }
    refused('b', 1, 'A', 'a', 'C');
    h.put(3, 7, -4, 0);
    h.put(2, 5, -4, 0);
    is(whole('A', 'a', 'C'), 6);
    is(first(4), "1 0 0, 3 0 0, 5 0 0, 7 0 0");
  }

  static void movedUnits() {
    // One has moved that is elsewhere than ahead of the concept: the couple of 2 and 3 goes up, and down again to where
    // it was, or two less; 0 and 1 come beside it. All acts are within one concept.
    for (int less = 0; less < 2; less++) {
      lay(1, -2, 0, 3, -2, 0, 5, less * 2, 2, 3, less * 2, 2, -7, 9, 0, -5, 9, 0, -7, -9, 0, -5, -9, 0);
      for (int i = 4; i < 8; i++) {
        h.skill(i, 0);
      }
      if (less == 0) {
        h.define('A', 2000, 'b', 's', '-');
        h.define('A', 2000, 'u', 's', '-');
        h.define('A', 2000, 'b', 's', '-');
      }
      h.define('A', 2000, 'u', 's', '-');
      h.define('A', 2000, 'u', 'h', '-');
      if (less == 0) {
        refused('b', 1, 'A', 'a', 'C');
      } else {
        is(whole('A', 'a', 'C'), 4);
        is(first(4), "1 0 0, 2 0 0, 5 0 2, 4 0 2");
      }
      is(h.why(), less == 0 ? 'b' : '-');
    }
  }

  static void conceptsWithin() {
    // A concept on a call holds for all its acts, each with its own one within: in units of T, rows of units parted by X.
    layTandem();
    h.define('A', 2000, 'x', 'a', 'X');
    is(whole('A', 'a', 'T'), 1);
    is(all(), "-1 1 0, -1 -1 0, -3 1 0, -3 -1 0, 3 1 0, 3 -1 0, 1 1 0, 1 -1 0");
    for (int shift = -1; shift <= 2; shift++) {
      lay(shift - 3, 1, 0, shift - 3, -1, 0, shift - 1, 1, 0, shift - 1, -1, 0, shift + 1, 1, 0, shift + 1, -1, 0, shift + 3, 1, 0,
          shift + 3, -1, 0);
      h.define('A', 2000, 'x', 'a', 'X');
      if (shift == 0) {
        is(whole('A', 'a', 'T'), 1);
      } else {
        refused('p', shift > 0 ? 0 : 4, 'A', 'a', 'T');
      }
    }
    // For all its acts, and with none within.
    layTandem();
    h.define('B', 2000, 'x', 'a', '-');
    h.define('B', 2000, 'b', 'a', '-');
    is(whole('B', 'a', 'T'), 3);
    is(all(), "-1 -1 2, -1 1 2, -3 -1 2, -3 1 2, 3 -1 2, 3 1 2, 1 -1 2, 1 1 2");
    // Units of units: couples of T's units, two of them, which change places; the number is that of the left one's front.
    layTandem();
    h.define('C', 2000, 'x', 'a', 'C');
    is(whole('C', 'a', 'T'), 1);
    is(all(), "1 1 0, 1 -1 0, 3 1 0, 3 -1 0, -3 1 0, -3 -1 0, -1 1 0, -1 -1 0");
    h.define('D', 2000, 'h', 'a', 'C');
    refused('p', 0, 'D', 'a', 'T');
    h.skill(1, 1);
    refused('p', 4, 'D', 'a', 'T');
    h.skill(4, 1);
    is(whole('D', 'a', 'T'), 1);
    // Units of T within T: the half of the half must be whole too.
    lay(-1, -3, 0, -1, -1, 0, -1, 1, 0, -1, 3, 0, 1, -3, 0, 1, -1, 0, 1, 1, 0, 1, 3, 0);
    h.define('E', 2000, 'x', 'a', 'T');
    is(whole('E', 'a', 'T'), 1);
    is(first(4), "1 -3 0, 1 -1 0, 1 1 0, 1 3 0");
    lay(-1, -1, 0, -1, 1, 0, -1, 3, 0, -1, 5, 0, 1, -1, 0, 1, 1, 0, 1, 3, 0, 1, 5, 0);
    h.define('E', 2000, 'x', 'a', 'T');
    refused('p', -1, 'E', 'a', 'T');
    lay(-1, -7, 0, -1, -5, 0, -1, -3, 0, -1, -1, 0, 1, -7, 0, 1, -5, 0, 1, -3, 0, 1, -1, 0);
    h.define('E', 2000, 'x', 'a', 'T');
    is(whole('E', 'a', 'T'), 1);
    is(all(), "1 -7 0, 1 -5 0, 1 -3 0, 1 -1 0, -1 -7 0, -1 -5 0, -1 -3 0, -1 -1 0");
  }

  static void conceptsThatMeet() {
    // Where X and Y meet, each holds: both by x and by y on one side.
    for (int y = -1; y <= 1; y++) {
      for (int x = -1; x <= 1; x++) {
        lay(x, y, 0, x + 2, y, 0);
        h.define('A', 2000, 'x', 'a', 'Y');
        h.define('B', 2000, 'x', 'a', 'X');
        boolean isGood = x == 1 && y != 0;
        is(answer(() -> h.dance('A', 'a', 'X', 1, 1)) == UNSUPPORTED, !isGood);
        is(answer(() -> h.dance('B', 'a', 'Y', 1, 1)) == UNSUPPORTED, !isGood);
      }
    }
    lay(1, 1, 0, 1, 3, 1, 3, 1, 3, 3, 3, 2);
    h.define('A', 2000, 'o', 'a', 'Y');
    is(whole('A', 'a', 'X'), 1);
    // X within X is X.
    lay(1, 0, 0, 3, 0, 0);
    h.define('A', 2000, 'x', 'a', 'X');
    is(whole('A', 'a', 'X'), 1);
    // A spacing of 4 within another one stays 4; with X, or Y, each holds.
    lay(1, 1, 0, 5, 1, 0);
    h.define('A', 2000, 'x', 'a', 'O');
    h.define('B', 2000, 'x', 'a', 'X');
    h.define('C', 2000, 'x', 'a', 'Y');
    is(whole('A', 'a', 'O'), 1);
    is(whole('A', 'a', 'X'), 1);
    is(whole('B', 'a', 'O'), 1);
    is(whole('A', 'a', 'Y'), 1);
    is(whole('C', 'a', 'O'), 1);
    refused('p', 0, 'B', 'a', '-');
    h.put(0, -1, 1, 0);
    h.put(1, 3, 1, 0);
    is(whole('A', 'a', 'O'), 1);
    refused('p', 0, 'A', 'a', 'X');
    refused('p', 0, 'B', 'a', 'O');
    is(whole('A', 'a', 'Y'), 1);
    h.put(0, -1, 0, 0);
    h.put(1, 3, 0, 0);
    refused('p', 0, 'A', 'a', 'Y');
    h.put(0, -4, 1, 0);
    h.put(1, 4, 1, 0);
    refused('p', 0, 'A', 'a', 'O');
    // Units are made of rows of all bodies, by the spacing 2, whatever parts, or spaces, the partners of units.
    lay(-5, -1, 0, -3, -1, 0, -1, -1, 0, 1, -1, 0, 3, -1, 0, 5, -1, 0, -5, 1, 0, -3, 1, 0);
    h.define('A', 2000, 'b', 'a', 'C');
    for (char concept : "-XYO".toCharArray()) {
      is(whole('A', 'a', concept), 2);
    }
    lay(-1, -1, 0, -1, 1, 0, 1, -1, 0, 1, 1, 0, 3, -1, 0, 3, 1, 0, 5, -1, 0, 5, 1, 0);
    h.define('A', 2000, 'b', 'a', 'T');
    for (char concept : "-XYO".toCharArray()) {
      is(whole('A', 'a', concept), 2);
    }
    // Partners of units by the spacing 4, in the units' places.
    lay(-5, -1, 0, -3, -1, 0, -1, -1, 0, 1, -1, 0, 3, -1, 0, 5, -1, 0, 7, -1, 0, 9, -1, 0);
    h.define('A', 2000, 'x', 'a', 'C');
    is(whole('A', 'a', 'O'), 1);
    is(all(), "3 -1 0, 5 -1 0, 7 -1 0, 9 -1 0, -5 -1 0, -3 -1 0, -1 -1 0, 1 -1 0");
  }

  // ---- calls

  static void calls() {
    // The parts of all its acts, done one behind the other; beats of 2 for each part, or what was told for the version.
    h.define('A', 2000, 'u', 'h', '-');
    h.define('A', 2000, 'b', 's', '-');
    h.define('A', 2000, 'q', 'l', '-');
    is(h.parts('A') + " " + h.beatsOf('A'), "5 10");
    is(whole('A', 'a', '-'), 5);
    is(all(), "-1 -1 1, 1 -1 0, 3 -1 2, 3 1 1, 1 1 3, -1 1 2, -3 1 0, -3 -1 3");
    is(h.beats(), 10L);
    // An act by others than all does not change what the act is by all.
    is(whole('q', 'h', '-'), 1);
    is(h.turned(2), 0);
    whole('q', 'a', '-');
    is(h.turned(2), 1);
  }

  static void versions() {
    // The version that holds when it is danced; what was danced of another one is not changed by it.
    h.define('A', 1990, 'q', 'a', '-');
    h.define('A', 2000, 'p', 'a', '-');
    whole('A', 'a', '-');
    is(h.turned(0), -1);
    h.year(1999);
    whole('A', 'a', '-');
    is(h.turned(0), 1);
    h.year(1989);
    fails(ELEMENT, () -> h.dance('A', 'a', '-', 1, 1));
    h.year(2100);
    whole('A', 'a', '-');
    is(h.turned(0), -1);
    h.forget('A');
    fails(ELEMENT, () -> h.dance('A', 'a', '-', 1, 1));
    is(h.callAt(0), 'A');
  }

  static void fractions() {
    // Acts are looked at as their turn comes: what does not fit, or collides, behind the fraction is no reason.
    h.define('A', 2000, 'q', 'h', '-');
    h.define('A', 2000, 'b', 's', '-');
    h.define('A', 2000, 'h', 'a', '-');
    is(h.dance('A', 'a', '-', 1, 4), 1);
    is(h.dance('A', 'a', '-', 3, 4), 3);
    fails(UNSUPPORTED, () -> h.finish());
    reasonIs('p', 0);
    h.home();
    refused('p', 0, 'A', 'a', '-');
    is(h.isHome(), true);
    is(h.dance('u', 'a', '-', 1, 2), 1);
    is(all(), "-1 -2 0, 1 -2 0, 2 -1 3, 2 1 3, 1 2 2, -1 2 2, -2 1 1, -2 -1 1");
    fails(UNSUPPORTED, () -> h.finish());
    reasonIs('b', 0);
    // One part of an act whose partners fit ends between; what is left goes on as if all had been danced at once.
    for (int done = 1; done <= 6; done++) {
      h = new Callerhall();
      h.define('B', 2000, 'w', 'a', '-');
      h.define('B', 2000, 'b', 'h', '-');
      h.define('B', 2000, 't', 's', '-');
      is(h.dance('B', 'a', '-', done, 6), done);
      if (done < 6) {
        is(h.finish(), 6 - done);
      }
      is(all(), "1 -3 0, -1 -3 0, 3 -1 3, 3 1 3, -1 3 2, 1 3 2, -3 1 1, -3 -1 1");
      is(h.calls(), 1);
    }
  }

  static void fractionsOfUnits() {
    // A fraction ends with the units as they are behind its last part: they must all lie one way then, though the whole
    // call, in which they do in the end, can be.
    layTandem();
    h.define('A', 2000, 'q', 'h', '-');
    h.define('A', 2000, 'q', 's', '-');
    fails(UNSUPPORTED, () -> h.dance('A', 'a', 'T', 1, 2));
    reasonIs('p', -1);
    is(whole('A', 'a', 'T'), 2);
    is(all(), "-5 0 1, -7 0 1, -1 0 1, -3 0 1, 3 0 1, 1 0 1, 7 0 1, 5 0 1");
    // With its own concept on each act, each act ends so.
    layTandem();
    h.define('B', 2000, 'q', 'h', 'T');
    h.define('B', 2000, 'q', 's', 'T');
    refused('p', -1, 'B', 'a', '-');
    // Those in units pass where a fraction ends, and not where the whole call goes on.
    layMeeting();
    is(h.dance('u', 'a', 'C', 1, 2), 1);
    is(first(4), "1 0 0, 2 0 0, 5 0 2, 4 0 2");
    is(h.finish(), 1);
    is(first(4), "1 1 0, 3 1 0, 5 -1 2, 3 -1 2");
    is(h.turned(0), 0);
    // A fraction can be, and what is left of it not, and the other way round.
    layMeeting();
    h.define('A', 2000, 'u', 'a', '-');
    h.define('A', 2000, 'q', 'h', '-');
    is(h.dance('A', 'a', 'C', 2, 3), 2);
    fails(UNSUPPORTED, () -> h.finish());
    reasonIs('p', -1);
    is(h.left(), 1);
  }

  static void reasons() {
    // 'w': there are no such bodies, or nobody is among them; not if those there are stand.
    layUp();
    refused('w', -1, 'q', 'c', 'C');
    refused('w', -1, 'q', 'l', 'C');
    h.change(1, 2);
    h.skill(0, 0);
    is(whole('q', 'l', 'C'), 1);
    is(h.turned(0) + h.turned(2), 0);
    // 'f' ahead of all but 'n', 'b' by the lowest one who collided.
    h = new Callerhall();
    refused('b', 0, 'u', 'a', '-');
    fails(UNSUPPORTED, () -> h.dance('u', 'a', '-', 1, 3));
    reasonIs('f', -1);
    h.skill(0, 0);
    h.skill(7, 0);
    h.skill(1, 0);
    h.skill(2, 0);
    refused('b', 3, 'u', 'a', '-');
  }

  // ---- flow and hands

  static void flow() {
    // The last number other than 0 of an earlier call: through any number of calls without a turn.
    whole('q', 'a', '-');
    for (int i = 0; i < 3; i++) {
      whole('q', 's', '-');
    }
    is(h.broken(), 0);
    whole('p', 'h', '-');
    is(h.broken(), 4);
    whole('p', 's', '-');
    is(h.broken(), 8);
    // A fraction and its finish are each by themselves: q, p, p of one call, ended behind each part.
    for (int done = 1; done <= 3; done++) {
      h.home();
      h.forget('A');
      h.define('A', 2000, 'q', 'l', '-');
      h.define('A', 2000, 'p', 'l', '-');
      h.define('A', 2000, 'p', 'l', '-');
      is(h.dance('A', 'a', '-', done, 3), done);
      is(h.turned(0), 2 - done);
      is(h.broken(), 0);
      if (done < 3) {
        h.finish();
        is(h.turned(0), done - 3);
        is(h.broken(), done == 1 ? 4 : 0);
      }
    }
    // Of a refused call nothing counts.
    h.home();
    whole('q', 'a', '-');
    h.define('B', 2000, 'p', 'a', '-');
    h.define('B', 2000, 'g', 'a', '-');
    refused('p', 0, 'B', 'a', '-');
    is(h.turned(0), 1);
    is(h.broken(), 0);
    whole('q', 'a', '-');
    is(h.broken(), 0);
  }

  static void hands() {
    // Right waves take right hands, left ones left hands, in h, c and t; couples take none, nor do x, w and r.
    for (char act : new char[] {'h', 'c', 't'}) {
      lay(WAVE);
      whole(act, 'a', '-');
      is(h.clashes(), 0);
      whole(act, 'a', '-');
      is(h.clashes(), 2);
      whole('x', 'a', '-');
      is(h.pair(0), 'l');
      whole(act, 'a', '-');
      is(h.clashes(), 2);
      whole(act, 'a', '-');
      is(h.clashes(), 4);
    }
    lay(WAVE);
    whole('h', 'a', '-');
    whole('x', 'a', '-');
    whole('x', 'a', '-');
    whole('r', 'l', '-');
    is(h.pair(0), 'c');
    whole('t', 'a', '-');
    whole('w', 'a', '-');
    is(h.clashes(), 0);
    whole('r', 'l', '-');
    is(h.clashes(), 0);
    is(h.pair(0), 'r');
    whole('h', 'a', '-');
    is(h.clashes(), 2);
    // Once in each act in which it turns: an act that went on in a finish took its hand in the fraction; the next act
    // of a finish takes one anew.
    lay(WAVE);
    h.define('A', 2000, 'c', 'a', '-');
    h.define('A', 2000, 'h', 'a', '-');
    is(h.dance('A', 'a', '-', 1, 4), 1);
    is(h.clashes(), 0);
    is(h.finish(), 3);
    is(h.clashes(), 2);
    is(h.dance('A', 'a', '-', 3, 4), 3);
    is(h.clashes(), 4);
    is(h.finish(), 1);
    is(h.clashes(), 6);
    is(whole('A', 'a', '-'), 4);
    is(h.clashes(), 8);
    // The first one that is taken in a call counts, with the last one of an earlier one; what is refused takes none.
    lay(LEFT_WAVE);
    whole('h', 'a', '-');
    whole('x', 'a', '-');
    h.define('B', 2000, 'h', 'a', '-');
    h.define('B', 2000, 'x', 'a', '-');
    h.define('B', 2000, 'h', 'a', '-');
    whole('B', 'a', '-');
    is(h.clashes(), 0);
    is(h.pair(0), 'l');
    h.define('B', 2000, 'g', 'a', '-');
    refused('p', 0, 'B', 'a', '-');
    whole('x', 'a', '-');
    whole('h', 'a', '-');
    is(h.clashes(), 0);
    // Those who stand take none.
    lay(WAVE);
    whole('h', 'a', '-');
    h.skill(0, 1);
    h.skill(1, 1);
    whole('h', 'a', '-');
    is(h.clashes(), 0);
  }

  static void handsOfUnits() {
    // Both of a unit take its hands, the first and the last one of several acts within the concept.
    lay(-3, -4, 0, -1, -4, 0, 3, -4, 2, 1, -4, 2, -3, 4, 0, -1, 4, 0, 3, 4, 2, 1, 4, 2);
    h.define('A', 2000, 'h', 'a', '-');
    h.define('A', 2000, 'x', 'a', '-');
    h.define('A', 2000, 'h', 'a', '-');
    is(whole('A', 'a', 'C'), 3);
    is(h.clashes(), 0);
    is(first(4), "1 -4 0, 3 -4 0, -1 -4 2, -3 -4 2");
    is(whole('h', 'a', 'C'), 1);
    is(h.clashes(), 8);
    is(whole('x', 'a', 'C'), 1);
    is(whole('A', 'a', 'C'), 3);
    is(h.clashes(), 8);
    // The last hand was a left one: a right one is no clash, nor is it behind a call without hands in units.
    is(whole('x', 'a', 'C'), 1);
    is(whole('t', 'a', 'C'), 2);
    is(h.clashes(), 8);
    is(whole('x', 'a', 'C'), 1);
    is(whole('t', 'a', 'C'), 2);
    is(h.clashes(), 8);
    // A hand that was taken in an act ahead of one in units stays the last one.
    lay(-1, 0, 0, 1, 0, 2, 0, 3, 1, 0, -3, 3, 5, 0, 0, 7, 0, 2, 6, 3, 1, 6, -3, 3);
    h.define('B', 2000, 'h', 'h', '-');
    h.define('B', 2000, 'b', 'a', 'C');
    is(whole('B', 'a', '-'), 3);
    is(h.clashes(), 0);
    h.put(0, -1, 6, 0);
    h.put(1, 1, 6, 2);
    h.put(4, 5, 6, 0);
    h.put(5, 7, 6, 2);
    is(whole('h', 'h', '-'), 1);
    is(h.clashes(), 4);
  }
}
