import java.util.NoSuchElementException;

/**
 * Two squares that are used alike but for one thing: that one is turned, or that one dances a call in two goes.
 * Nothing that is due here was worked out by hand, or by another program of the document.
 */
public final class TwinTests extends Checks {
  private static final String ACTS = "uqpbgfhctwxor";
  private static long seed = 11;
  private static int danced = 0;
  private static Callerhall one;
  private static Callerhall other;

  public static void main(String[] args) {
    where = "turned";
    for (int i = 0; i < 30000; i++) {
      danceTurned();
    }
    where = "turned: too few were danced";
    is(danced > 5000, true);
    danced = 0;
    where = "finished";
    for (int i = 0; i < 30000; i++) {
      danceInTwo();
    }
    where = "finished: too few were danced";
    is(danced > 1500, true);
    end("twins are alike");
  }

  private static int pick(int bound) {
    seed = seed * 6364136223846793005L + 1442695040888963407L;
    return (int) ((seed >>> 33) % bound);
  }

  private static char pickOf(String signs) {
    return signs.charAt(pick(signs.length()));
  }

  /** Two new squares alike: in each of two corners four dancers at the corners of a box, so that no row is odd. */
  private static void layTwins(boolean isWide) {
    one = new Callerhall();
    other = new Callerhall();
    int side = isWide ? 2 : 1;
    int facing = pick(4);
    int byX = 2 * pick(2);
    int byY = 2 * pick(2);
    int first = pick(8);
    for (int i = 0; i < 8; i++) {
      int centre = i < 4 ? -6 : 6;
      int x = centre + (i % 2 == 0 ? -side : side);
      int y = centre + (i / 2 % 2 == 0 ? -side : side);
      int f = (facing + i % 2 * byX + i / 2 % 2 * byY + (pick(24) == 0 ? pick(4) : 0)) % 4;
      int skill = pick(20) == 0 ? pick(4) : 3;
      for (Callerhall square : new Callerhall[] {one, other}) {
        square.put((i + first) % 8, x, y, f);
        square.skill((i + first) % 8, skill);
      }
    }
  }

  /** The reason why the call of a square cannot be, and by whom; '-' if it is danced. */
  private static String dance(Callerhall square, char call, char who, char concept, int up, int down) {
    try {
      square.dance(call, who, concept, up, down);
      return "-";
    } catch (UnsupportedOperationException e) {
      return reason(square);
    }
  }

  private static String reason(Callerhall square) {
    try {
      return square.why() + " " + square.whom();
    } catch (NoSuchElementException e) {
      return square.why() + "";
    }
  }

  private static String places(Callerhall square) {
    StringBuilder text = new StringBuilder();
    for (int i = 0; i < 8; i++) {
      text.append(square.x(i)).append(' ').append(square.y(i)).append(' ').append(square.facing(i)).append(", ");
    }
    return text.toString();
  }

  private static String turns(Callerhall square) {
    StringBuilder text = new StringBuilder();
    for (int i = 0; i < 8; i++) {
      text.append(square.turned(i)).append(' ');
    }
    return text.append(square.broken()).append(' ').append(square.clashes()).toString();
  }

  /** By an odd number of quarters, what lies along x lies along y. */
  private static char turnedConcept(char concept, int quarters) {
    if (quarters % 2 == 0) {
      return concept;
    }
    return concept == 'X' ? 'Y' : concept == 'Y' ? 'X' : concept;
  }

  private static void danceTurned() {
    char inner = pickOf("---XYOTC");
    char outer = pickOf("---XYOTC");
    layTwins(inner == 'O' || outer == 'O');
    int quarters = 1 + pick(3);
    other.turnAll(quarters);
    for (int i = 1 + pick(2); i > 0; i--) {
      char act = pickOf(ACTS);
      char who = pickOf("aaaaahslr");
      one.define('A', 2000, act, who, inner);
      other.define('A', 2000, act, who, turnedConcept(inner, quarters));
    }
    String got = dance(other, 'A', 'a', turnedConcept(outer, quarters), 1, 1);
    is(got, dance(one, 'A', 'a', outer, 1, 1));
    is(turns(other), turns(one));
    danced += got.equals("-") ? 1 : 0;
    one.turnAll(quarters);
    is(places(other), places(one));
  }

  private static void danceInTwo() {
    char outer = pickOf("---XYOPTC");
    boolean isWide = pick(4) == 0;
    layTwins(isWide);
    for (int i = 1 + pick(3); i > 0; i--) {
      char act = pickOf(ACTS);
      char who = pickOf("aaaaaahslrce");
      char inner = pickOf(isWide ? "-OOOP" : "---XYPTC");
      one.define('A', 2000, act, who, inner);
      other.define('A', 2000, act, who, inner);
    }
    int all = one.parts('A');
    if (all > 12 || all < 2) {
      return;
    }
    String before = places(one);
    String whole = dance(one, 'A', 'a', outer, 1, 1);
    int parts = 1 + pick(all - 1);
    if (!dance(other, 'A', 'a', outer, parts, all).equals("-")) {
      is(places(other), before);
      return;
    }
    is(other.left(), all - parts);
    String firstTurns = turns(other);
    String got = "-";
    try {
      is(other.finish(), all - parts);
    } catch (UnsupportedOperationException e) {
      got = reason(other);
    }
    is(got, whole);
    if (got.equals("-")) {
      danced++;
      is(places(other), places(one));
      is(other.beats(), one.beats());
      is(other.left(), 0);
      areTurnsAdded(firstTurns);
    }
    is(other.calls(), 1);
    is(other.back(), 0);
    is(places(other), before);
  }

  private static void areTurnsAdded(String firstTurns) {
    String[] first = firstTurns.split(" ");
    for (int i = 0; i < 8; i++) {
      is(Integer.parseInt(first[i]) + other.turned(i), one.turned(i));
    }
  }
}
