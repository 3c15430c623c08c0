import java.util.ArrayList;
import java.util.List;
import java.util.NoSuchElementException;
import java.util.TreeMap;

/** Long runs of calls, each answered by Callerhall and by Model, a plainer program of the same document. */
public final class ModelTests {
  private static final int RUNS = 1000;
  private static final int CALLS = 300;
  private static int wrong = 0;

  /** A call of both; its answer as a text, or the name of what it throws. */
  private interface Call {
    Object of(Model model, Callerhall hall);
  }

  private long seed;
  private final Model model = new Model();
  private final Callerhall hall = new Callerhall();
  private final List<String> told = new ArrayList<>();

  private ModelTests(long seed) {
    this.seed = seed * 2654435761L + 12345;
  }

  public static void main(String[] args) {
    TreeMap<String, Integer> seen = new TreeMap<>();
    int runs = args.length > 0 ? Integer.parseInt(args[0]) : RUNS;
    for (int run = 0; run < runs && wrong < 5; run++) {
      ModelTests tests = new ModelTests(run);
      tests.run(run, seen);
    }
    boolean isWide = true;
    for (String due : new String[] {"dance -", "dance n", "dance f", "dance w", "dance p", "dance b",
        "finish -", "finish p", "finish b", "finish n", "wayHome 0", "wayHome 1", "wayHome 2"}) {
      if (runs >= RUNS && !seen.containsKey(due)) {
        isWide = false;
        System.out.println("the runs never came to " + due);
      }
    }
    if (args.length > 1) {
      System.out.println(seen);
    }
    System.out.println(wrong == 0 ? "all runs agree with the model" : "runs do not agree with the model");
    if (wrong != 0 || !isWide) {
      System.exit(1);
    }
  }

  /** A number from 0 to below a bound, always the same ones for a seed. */
  private int pick(int bound) {
    seed = seed * 6364136223846793005L + 1442695040888963407L;
    return (int) ((seed >>> 33) % bound);
  }

  private char pickOf(String signs) {
    return signs.charAt(pick(signs.length()));
  }

  private static String answer(Call call, Model model, Callerhall hall) {
    try {
      return String.valueOf(call.of(model, hall));
    } catch (IndexOutOfBoundsException | IllegalArgumentException | IllegalStateException
        | UnsupportedOperationException | NoSuchElementException | ArithmeticException e) {
      return e.getClass().getSimpleName();
    }
  }

  private String both(String name, Call call) {
    String want = answer(call, model, null);
    String got = answer(call, null, hall);
    told.add(name + " = " + want);
    if (!want.equals(got)) {
      wrong++;
      System.out.println("answered " + got + " in:");
      for (String line : told) {
        System.out.println("  " + line);
      }
    }
    return want;
  }

  private void run(int number, TreeMap<String, Integer> seen) {
    int before = wrong;
    for (int i = 0; i < CALLS && wrong == before; i++) {
      if (pick(20) == 0 || i == 0 && number % 3 != 0) {
        layOut();
      }
      String name = step();
      if (name.startsWith("dance") || name.startsWith("finish")) {
        String reason = both("why()", (m, h) -> m != null ? m.why() : h.why());
        both("whom()", (m, h) -> m != null ? m.whom() : h.whom());
        seen.merge(name.substring(0, name.startsWith("dance") ? 5 : 6) + " " + reason, 1, Integer::sum);
      }
      if (name.startsWith("wayHome")) {
        seen.merge("wayHome " + name.substring(name.lastIndexOf(' ') + 1), 1, Integer::sum);
      }
      if (wrong == before) {
        look();
      }
    }
  }

  /** Puts all into one of several formations, so that many acts fit. */
  private void layOut() {
    int[][] shapes = {
      {-3, -1, 0, -1, -1, 0, 1, -1, 0, 3, -1, 0, 3, 1, 2, 1, 1, 2, -1, 1, 2, -3, 1, 2},
      {-3, -1, 0, -1, -1, 2, 1, -1, 0, 3, -1, 2, 3, 1, 2, 1, 1, 0, -1, 1, 2, -3, 1, 0},
      {-3, -1, 2, -1, -1, 0, 1, -1, 2, 3, -1, 0, 3, 1, 0, 1, 1, 2, -1, 1, 0, -3, 1, 2},
      {-1, -3, 0, -1, -1, 2, -1, 1, 0, -1, 3, 2, 1, 3, 2, 1, 1, 0, 1, -1, 2, 1, -3, 0},
      {-7, 0, 0, -5, 0, 2, -3, 0, 0, -1, 0, 2, 1, 0, 0, 3, 0, 2, 5, 0, 0, 7, 0, 2},
      {-3, -1, 1, -1, -1, 1, 1, -1, 1, 3, -1, 1, 3, 1, 3, 1, 1, 3, -1, 1, 3, -3, 1, 3},
      {-3, 0, 0, -1, 0, 0, 1, 0, 0, 3, 0, 0, -3, 2, 2, -1, 2, 2, 1, 2, 2, 3, 2, 2},
      {-3, 0, 0, -1, 0, 0, 1, 0, 0, 3, 0, 0, -3, 2, 0, -1, 2, 0, 1, 2, 0, 3, 2, 0},
      {-6, 1, 0, -4, 1, 0, -2, 1, 0, 0, 1, 0, 2, 1, 0, 4, 1, 0, 6, 1, 0, 8, 1, 0},
      {-3, -3, 1, -1, -3, 1, 1, -3, 1, 3, -3, 1, -3, -1, 1, -1, -1, 1, 1, -1, 1, 3, -1, 1},
      {-3, -1, 0, -1, -1, 2, 1, -1, 2, 3, -1, 0, 3, 1, 0, 1, 1, 2, -1, 1, 2, -3, 1, 0},
      {-2, -2, 0, 0, -2, 0, -2, 0, 2, 0, 0, 2, 2, -2, 3, 2, 0, 3, 4, -2, 1, 4, 0, 1}};
    int[] shape = shapes[pick(shapes.length)];
    for (int i = 0; i < 8; i++) {
      put(i, 9, 9 - i, 0);
    }
    int turn = pick(3);
    int shift = pick(4) == 0 ? pick(3) - 1 : 0;
    int by = pick(4) * 2;
    boolean isMixed = pick(4) == 0;
    for (int i = 0; i < 8; i++) {
      int x = shape[3 * i] + (pick(3) == 0 ? 0 : shift);
      int y = shape[3 * i + 1];
      int f = isMixed && pick(3) == 0 ? pick(4) : shape[3 * i + 2];
      int who = (i + by) % 8;
      if (turn == 1) {
        put(who, -y, x, (f + 3) % 4);
      } else {
        put(who, x, y, f);
      }
    }
  }

  private void put(int dancer, int x, int y, int f) {
    both("put(" + dancer + ", " + x + ", " + y + ", " + f + ")",
        (m, h) -> m != null ? m.put(dancer, x, y, f) : h.put(dancer, x, y, f));
  }

  private char letter() {
    return pickOf("AAABBCCDDEFGH");
  }

  private char act() {
    return pickOf("uqpbgfhctwxrouhtwxgfo");
  }

  private char who() {
    return pickOf("aaaaaaaaaahslrceaaz".substring(0, pick(20) == 0 ? 19 : 18));
  }

  private char concept() {
    return pickOf("-----XYOPTCTC");
  }

  private String step() {
    int kind = pick(100);
    if (model.left() > 0 && pick(3) == 0) {
      kind = 45;
    }
    if (kind < 40) {
      return stepDance();
    }
    if (kind < 46) {
      return "finish " + both("finish()", (m, h) -> m != null ? m.finish() : h.finish());
    }
    if (kind < 60) {
      return stepDefinition();
    }
    if (kind < 72) {
      return stepPlaces();
    }
    if (kind < 82) {
      return stepFound();
    }
    if (kind < 90) {
      return stepSong();
    }
    return stepFolk();
  }

  private String stepDance() {
    boolean isWanted = pick(3) != 0;
    char call;
    char who;
    char concept;
    int tries = 0;
    do {
      boolean isCall = pick(3) == 0;
      call = isCall ? letter() : act();
      who = isCall ? 'a' : who();
      concept = concept();
      tries++;
    } while (isWanted && tries < 20 && (who == 'z' || !model.wouldDance(call, who, concept)));
    return stepDance(call, who, concept);
  }

  private String stepDance(char call, char who, char concept) {
    int style = pick(8);
    int all = model.partsOrOne(call);
    int down = style < 3 || all > 12 ? 1 + pick(3) : style < 7 ? all : 1 + pick(12);
    int up = style < 3 ? down : 1 + pick(down);
    return "dance " + both("dance(" + call + ", " + who + ", " + concept + ", " + up + ", " + down + ")",
        (m, h) -> m != null ? m.dance(call, who, concept, up, down) : h.dance(call, who, concept, up, down));
  }

  private String stepDefinition() {
    char letter = letter();
    int year = 1990 + pick(5) * 5;
    int kind = pick(30);
    if (kind < 20) {
      char act = act();
      char who = who();
      char concept = concept();
      both("define(" + letter + ", " + year + ", " + act + ", " + who + ", " + concept + ")",
          (m, h) -> m != null ? m.define(letter, year, act, who, concept) : h.define(letter, year, act, who, concept));
    } else if (kind < 23) {
      both("forget(" + letter + ")", (m, h) -> m != null ? m.forget(letter) : h.forget(letter));
    } else if (kind < 26) {
      int beats = pick(101);
      both("timing(" + letter + ", " + year + ", " + beats + ")",
          (m, h) -> m != null ? m.timing(letter, year, beats) : h.timing(letter, year, beats));
    } else if (kind < 28) {
      both("year(" + year + ")", (m, h) -> m != null ? m.year(year) : h.year(year));
    } else {
      int level = pick(7) == 0 ? pick(5) : 3;
      both("level(" + level + ")", (m, h) -> m != null ? m.level(level) : h.level(level));
    }
    char call = pick(2) == 0 ? letter : pickOf("uqpbgfhctwxroz");
    both("parts(" + call + ")", (m, h) -> m != null ? m.parts(call) : h.parts(call));
    both("beatsOf(" + call + ")", (m, h) -> m != null ? m.beatsOf(call) : h.beatsOf(call));
    both("levelOf(" + call + ")", (m, h) -> m != null ? m.levelOf(call) : h.levelOf(call));
    return "definition";
  }

  private String stepPlaces() {
    int kind = pick(20);
    int one = pick(8);
    int other = pick(9);
    if (kind < 4) {
      put(one, pick(9) - 4, pick(9) - 4, pick(4));
    } else if (kind < 7) {
      both("change(" + one + ", " + other + ")", (m, h) -> m != null ? m.change(one, other) : h.change(one, other));
    } else if (kind < 10) {
      both("turnAll(" + (other - 2) + ")", (m, h) -> m != null ? m.turnAll(other - 2) : h.turnAll(other - 2));
    } else if (kind < 14) {
      both("home()", (m, h) -> m != null ? m.home() : h.home());
    } else {
      both("back()", (m, h) -> m != null ? m.back() : h.back());
    }
    return "places";
  }

  private String stepFound() {
    int kind = pick(10);
    int dancer = pick(9);
    char who = who();
    if (kind < 2) {
      both("isAmong(" + dancer + ", " + who + ")", (m, h) -> m != null ? m.isAmong(dancer, who) : h.isAmong(dancer, who));
    } else if (kind < 4) {
      boolean isFacing = pick(2) == 0;
      int spacing = 2 + pick(3);
      both("partner(" + dancer + ", " + isFacing + ", " + spacing + ")",
          (m, h) -> m != null ? m.partner(dancer, isFacing, spacing) : h.partner(dancer, isFacing, spacing));
    } else if (kind < 5) {
      both("pair(" + dancer + ")", (m, h) -> m != null ? m.pair(dancer) : h.pair(dancer));
    } else if (kind < 7) {
      char act = act();
      char concept = concept();
      both("fits(" + act + ", " + who + ", " + concept + ")",
          (m, h) -> m != null ? m.fits(act, who, concept) : h.fits(act, who, concept));
    } else if (kind < 9) {
      int most = pick(4);
      if (pick(3) == 0) {
        both("home()", (m, h) -> m != null ? m.home() : h.home());
        for (int i = pick(3); i > 0; i--) {
          char act = act();
          both("dance(" + act + ", a, -, 1, 1)", (m, h) -> m != null ? m.dance(act, 'a', '-', 1, 1) : h.dance(act, 'a', '-', 1, 1));
        }
      }
      String found = both("wayHome(" + most + ")", (m, h) -> m != null ? m.wayHome(most) : h.wayHome(most));
      both("wayAt(0)", (m, h) -> m != null ? m.wayAt(0) : h.wayAt(0));
      both("wayAt(1)", (m, h) -> m != null ? m.wayAt(1) : h.wayAt(1));
      return "wayHome " + found;
    } else {
      char shape = pickOf("slkwvet-");
      both("repairs(" + shape + ")", (m, h) -> m != null ? m.repairs(shape) : h.repairs(shape));
    }
    return "found";
  }

  private String stepSong() {
    int kind = pick(12);
    int number = pick(20);
    int other = pick(20);
    if (kind < 2) {
      both("sing(" + (5 + number * 7) + ")", (m, h) -> m != null ? m.sing(5 + number * 7) : h.sing(5 + number * 7));
    } else if (kind < 5) {
      both("progress()", (m, h) -> m != null ? m.progress() : h.progress());
    } else if (kind < 6) {
      both("hall(" + number + ")", (m, h) -> m != null ? m.hall(number) : h.hall(number));
    } else if (kind < 9) {
      both("tip()", (m, h) -> m != null ? m.tip() : h.tip());
    } else if (kind < 11) {
      both("setOf(" + number + ", " + other + ")", (m, h) -> m != null ? m.setOf(number, other) : h.setOf(number, other));
    } else {
      both("met(" + number + ", " + other + ")", (m, h) -> m != null ? m.met(number, other) : h.met(number, other));
    }
    return "song";
  }

  private String stepFolk() {
    int kind = pick(10);
    int dancer = pick(8);
    if (kind < 4) {
      int skill = pick(3) == 0 ? pick(5) : 3;
      both("skill(" + dancer + ", " + skill + ")", (m, h) -> m != null ? m.skill(dancer, skill) : h.skill(dancer, skill));
    } else if (kind < 9) {
      int x = pick(9) - 4;
      int y = pick(9) - 4;
      int f = pick(4);
      both("phantom(" + x + ", " + y + ", " + f + ")", (m, h) -> m != null ? m.phantom(x, y, f) : h.phantom(x, y, f));
    } else {
      both("clearPhantoms()", (m, h) -> m != null ? m.clearPhantoms() : h.clearPhantoms());
    }
    return "folk";
  }

  /** What all that can be asked without an effect answers. */
  private void look() {
    both("look", (m, h) -> m != null ? look(m) : look(h));
  }

  private static String look(Model m) {
    StringBuilder text = new StringBuilder();
    for (int i = 0; i < 8; i++) {
      text.append(m.x(i)).append(',').append(m.y(i)).append(',').append(m.facing(i)).append(',').append(m.turned(i));
      text.append(' ');
    }
    text.append(m.left()).append(' ').append(m.calls()).append(' ').append(m.formation()).append(m.isHome());
    text.append(m.isSymmetric()).append(m.broken()).append(' ').append(m.clashes()).append(' ').append(m.sung());
    text.append(' ').append(m.gone()).append(' ').append(m.beats()).append(' ').append(m.meanAway()).append(m.isConsistent());
    text.append(answer((a, b) -> m.doneShare(), null, null)).append(answer((a, b) -> m.callAt(0), null, null));
    text.append(answer((a, b) -> m.callAt(19), null, null)).append(answer((a, b) -> m.find(1, -1), null, null));
    return text.toString();
  }

  private static String look(Callerhall m) {
    StringBuilder text = new StringBuilder();
    for (int i = 0; i < 8; i++) {
      text.append(m.x(i)).append(',').append(m.y(i)).append(',').append(m.facing(i)).append(',').append(m.turned(i));
      text.append(' ');
    }
    text.append(m.left()).append(' ').append(m.calls()).append(' ').append(m.formation()).append(m.isHome());
    text.append(m.isSymmetric()).append(m.broken()).append(' ').append(m.clashes()).append(' ').append(m.sung());
    text.append(' ').append(m.gone()).append(' ').append(m.beats()).append(' ').append(m.meanAway()).append(m.isConsistent());
    text.append(answer((a, b) -> m.doneShare(), null, null)).append(answer((a, b) -> m.callAt(0), null, null));
    text.append(answer((a, b) -> m.callAt(19), null, null)).append(answer((a, b) -> m.find(1, -1), null, null));
    return text.toString();
  }
}
