import java.util.ArrayList;
import java.util.List;

/**
 * The two sentences that bind every method: one that throws an exception changes nothing but what why() and whom()
 * tell, and of several conditions for an exception the one listed first is thrown. Each refused call is made on one of
 * two squares that are used alike; whatever is asked of both behind it must be answered alike.
 */
public final class RefusalTests extends Checks {
  private interface Of {
    Object on(Callerhall c);
  }

  private interface Doing {
    void on(Callerhall c);
  }

  private static final class Case {
    final String name;
    final Class<?> due;
    final Of call;
    final Doing square;

    Case(String name, Class<?> due, Of call, Doing square) {
      this.name = name;
      this.due = due;
      this.call = call;
      this.square = square;
    }

    /** Whether a call was tried, and could not be: that is what why() and whom() tell of, and doneShare() counts. */
    boolean isTried() {
      return due == UNSUPPORTED && (name.startsWith("dance") || name.startsWith("finish"));
    }

    Callerhall make() {
      Callerhall c = new Callerhall();
      square.on(c);
      return c;
    }
  }

  private static final List<Case> CASES = new ArrayList<>();
  private static final int PROBES = 6;

  public static void main(String[] args) {
    refusedFolk();
    refusedDefinitions();
    refusedCalls();
    refusedFinishes();
    refusedLooks();
    refusedSongs();
    for (Case one : CASES) {
      where = one.name;
      for (int probe = 0; probe < PROBES; probe++) {
        tryCase(one, probe);
      }
    }
    end("what is refused changes nothing, and the first condition is thrown");
  }

  private static void tryCase(Case one, int probe) {
    Callerhall used = one.make();
    Callerhall twin = one.make();
    is(answer(() -> one.call.on(used)), one.due);
    if (one.isTried()) {
      is(used.why(), one.name.charAt(one.name.indexOf(':') + 2));
    }
    is(look(used, one.isTried()), look(twin, one.isTried()));
    is(probe(used, probe), probe(twin, probe));
  }

  private static void add(String name, Class<?> due, Of call) {
    CASES.add(new Case(name, due, call, RefusalTests::busy));
    CASES.add(new Case(name + ", nothing left", due, call, RefusalTests::rested));
  }

  private static void addOn(Doing square, String name, Class<?> due, Of call) {
    CASES.add(new Case(name, due, call, square));
  }

  // ---- squares

  /** A square in the midst of all: nothing that can be told is as on a new one. */
  private static void rested(Callerhall c) {
    c.hall(9);
    c.tip();
    c.tip();
    c.define('A', 1990, 'b', 'a', '-');
    c.define('A', 1990, 'w', 's', '-');
    c.define('A', 1990, 'u', 'h', '-');
    c.define('A', 2001, 'q', 'a', '-');
    c.define('B', 1995, 'q', 'a', 'P');
    c.timing('A', 1990, 13);
    c.sing(40);
    c.progress();
    c.skill(5, 2);
    c.phantom(0, 0, 0);
    c.phantom(9, 9, 2);
    c.year(1999);
    c.level(2);
    c.dance('q', 'a', '-', 1, 1);
    c.wayHome(2);
    c.dance('p', 'h', '-', 1, 1);
    c.dance('p', 's', '-', 1, 1);
    c.dance('t', 'a', '-', 1, 1);
    answer(() -> c.dance('h', 's', '-', 1, 1));
  }

  /** The same, with a call of which a fraction was danced, and a reason of one that was refused behind it. */
  private static void busy(Callerhall c) {
    rested(c);
    leave(c);
  }

  private static void leave(Callerhall c) {
    c.dance('A', 'a', '-', 1, 6);
    answer(() -> c.dance('x', 's', '-', 1, 1));
  }

  /** Right waves, whose hands were taken, and a fraction of what is left. */
  private static void waves(Callerhall c) {
    for (int i = 0; i < 8; i++) {
      c.put(i, 9, 9 - i, 0);
    }
    for (int i = 0; i < 8; i++) {
      c.put(i, WAVES[3 * i], 3 * WAVES[3 * i + 1], WAVES[3 * i + 2]);
    }
    c.dance('h', 'a', '-', 1, 1);
    c.dance('h', 'a', '-', 1, 1);
    c.dance('c', 'a', '-', 1, 3);
  }

  private static void full(Callerhall c) {
    busy(c);
    c.clearPhantoms();
    for (int i = 0; i < 8; i++) {
      c.phantom(9, i, 0);
    }
    for (int i = 0; i < 8; i++) {
      c.define('C', 1980, 'q', 'a', '-');
    }
    c.define('C', 1981, 'u', 'a', '-');
    c.define('C', 1982, 'c', 'a', '-');
    for (int i = 0; i < 28; i++) {
      c.tip();
    }
    c.dance('b', 'h', '-', 1, 2);
  }

  private static void fresh(Callerhall c) {
    c.left();
  }

  // ---- what is looked at behind a refused call

  private static String look(Callerhall c, boolean isTried) {
    StringBuilder text = new StringBuilder();
    for (int i = 0; i < 8; i++) {
      text.append(c.x(i)).append(' ').append(c.y(i)).append(' ').append(c.facing(i)).append(' ').append(c.turned(i)).append(", ");
    }
    for (char call = 'A'; call <= 'D'; call++) {
      char own = call;
      note(text, () -> c.parts(own));
      note(text, () -> c.beatsOf(own));
      note(text, () -> c.levelOf(own));
    }
    note(text, () -> c.left());
    note(text, () -> c.calls());
    for (int i = 0; i < 6; i++) {
      int index = i;
      note(text, () -> c.callAt(index));
      note(text, () -> c.wayAt(index));
    }
    note(text, () -> "" + c.formation() + c.isHome() + c.isSymmetric() + " " + c.broken() + " " + c.clashes() + " " + c.sung()
        + " " + c.gone() + " " + c.beats() + " " + c.meanAway() + " " + c.isConsistent());
    for (int i = 0; i < 9; i++) {
      int couple = i;
      note(text, () -> c.met(couple, 4));
      note(text, () -> c.setOf(1, couple));
      note(text, () -> c.setOf(2, couple));
    }
    note(text, () -> c.fits('q', 'a', 'P'));
    if (!isTried) {
      note(text, () -> c.why());
      note(text, () -> c.whom());
      note(text, () -> c.doneShare());
    }
    return text.toString();
  }

  private static void note(StringBuilder text, Call call) {
    text.append(answer(call)).append(' ');
  }

  private static void noteSquare(StringBuilder text, Callerhall c) {
    for (int i = 0; i < 8; i++) {
      text.append(c.x(i)).append(' ').append(c.y(i)).append(' ').append(c.facing(i)).append(' ').append(c.turned(i)).append(", ");
    }
    note(text, () -> c.left() + " " + c.broken() + " " + c.clashes() + " " + c.sung() + " " + c.beats());
  }

  /** What else is kept shows itself when it is used, in one of several ways. */
  private static String probe(Callerhall c, int kind) {
    StringBuilder text = new StringBuilder();
    switch (kind) {
      case 0: probeRest(text, c); break;
      case 1: probePast(text, c); break;
      case 2: probeWhatWasTold(text, c); break;
      case 3: probeVersions(text, c); break;
      case 4: probeFlow(text, c); break;
      default: probeHall(text, c);
    }
    return text.toString();
  }

  private static void probeRest(StringBuilder text, Callerhall c) {
    note(text, () -> c.finish());
    noteSquare(text, c);
    note(text, () -> c.back());
    noteSquare(text, c);
  }

  private static void probePast(StringBuilder text, Callerhall c) {
    for (int i = 0; i < 21; i++) {
      note(text, () -> c.back());
      note(text, () -> c.meanAway() + " " + c.x(0) + " " + c.y(0) + " " + c.facing(0) + " " + c.x(3) + " " + c.facing(3) + c.calls());
    }
  }

  private static void probeWhatWasTold(StringBuilder text, Callerhall c) {
    note(text, () -> c.level(3));
    note(text, () -> c.year(2000));
    for (int i = 0; i < 8; i++) {
      int dancer = i;
      note(text, () -> c.skill(dancer, 3));
    }
    note(text, () -> c.home());
    note(text, () -> c.progress());
    note(text, () -> c.gone());
    note(text, () -> c.sing(8));
    noteSquare(text, c);
    probePhantoms(text, c);
  }

  /** Where phantoms are, and which way they face: a dancer is put ahead of each of two, facing it in each way. */
  private static void probePhantoms(StringBuilder text, Callerhall c) {
    for (int i = 0; i < 8; i++) {
      c.skill(i, i < 2 ? 3 : 0);
    }
    for (int facing = 0; facing < 4; facing++) {
      int own = facing;
      note(text, () -> c.put(0, own == 1 ? -2 : own == 3 ? 2 : 0, own == 0 ? -2 : own == 2 ? 2 : 0, own));
      note(text, () -> c.put(1, own == 1 ? 7 : 9, own == 0 ? 7 : 9, own));
      note(text, () -> c.fits('g', 'l', 'P'));
      note(text, () -> c.fits('g', 'r', 'P'));
    }
    note(text, () -> c.phantom(0, 0, 0));
    note(text, () -> c.phantom(9, 9, 0));
    note(text, () -> c.clearPhantoms());
  }

  private static void probeVersions(StringBuilder text, Callerhall c) {
    for (int year : new int[] {1900, 1980, 1981, 1982, 1990, 1995, 1999, 2001, 2100}) {
      c.year(year);
      for (char call = 'A'; call <= 'D'; call++) {
        char own = call;
        note(text, () -> c.parts(own));
        note(text, () -> c.beatsOf(own));
      }
    }
    for (char call = 'A'; call <= 'H'; call++) {
      char own = call;
      note(text, () -> c.define(own, 1990, 'q', 'a', '-'));
      note(text, () -> c.forget(own));
    }
  }

  private static void probeFlow(StringBuilder text, Callerhall c) {
    for (char call : "qpbhtBA".toCharArray()) {
      for (int i = 0; i < 2; i++) {
        note(text, () -> c.dance(call, 'a', conceptFor(call), 1, 1));
        note(text, () -> c.why());
        note(text, () -> c.doneShare() > 0);
        noteSquare(text, c);
      }
    }
  }

  /** Phantoms are in the way in one of the calls. */
  private static char conceptFor(char call) {
    return call == 'b' ? 'P' : '-';
  }

  private static void probeHall(StringBuilder text, Callerhall c) {
    for (int tip = 0; tip < 3; tip++) {
      note(text, () -> c.tip());
    }
    for (int i = 0; i < 9; i++) {
      int couple = i;
      note(text, () -> c.setOf(2, couple));
      note(text, () -> c.setOf(4, couple));
      note(text, () -> c.met(couple, 0));
    }
    note(text, () -> c.hall(4));
  }

  // ---- refused calls

  private static void refusedFolk() {
    for (int dancer : new int[] {-1, 8}) {
      add("x", INDEX, c -> c.x(dancer));
      add("y", INDEX, c -> c.y(dancer));
      add("facing", INDEX, c -> c.facing(dancer));
      add("turned", INDEX, c -> c.turned(dancer));
      add("put: no dancer", INDEX, c -> c.put(dancer, 5, 5, 0));
      add("put: no dancer, a wrong number", INDEX, c -> c.put(dancer, 10, 5, 0));
      add("put: no dancer, another one there", INDEX, c -> c.put(dancer, -1, -3, 0));
      add("change: no first one", INDEX, c -> c.change(dancer, 0));
      add("change: no other one", INDEX, c -> c.change(0, dancer));
      add("change: no dancer, both the same", INDEX, c -> c.change(dancer, dancer));
      add("skill: no dancer", INDEX, c -> c.skill(dancer, 1));
      add("skill: no dancer, a wrong skill", INDEX, c -> c.skill(dancer, 4));
    }
    int[][] wrongPlaces = {{10, 0, 0}, {-10, 0, 0}, {0, 10, 0}, {0, -10, 0}, {0, 0, 4}, {0, 0, -1}};
    for (int[] place : wrongPlaces) {
      add("put: a wrong number", ARGUMENT, c -> c.put(1, place[0], place[1], place[2]));
      add("phantom: a wrong number", ARGUMENT, c -> c.phantom(place[0], place[1], place[2]));
      addOn(RefusalTests::full, "phantom: a wrong number, and eight", ARGUMENT, c -> c.phantom(place[0], place[1], place[2]));
    }
    add("put: another one there", UNSUPPORTED, c -> c.put(0, c.x(1), c.y(1), 2));
    add("put: a wrong facing, another one there", ARGUMENT, c -> c.put(0, c.x(1), c.y(1), 4));
    add("change: both the same", ARGUMENT, c -> c.change(7, 7));
    for (int quarters : new int[] {0, 4, -1}) {
      add("turnAll", ARGUMENT, c -> c.turnAll(quarters));
    }
    add("find", ELEMENT, c -> c.find(0, 0));
    add("skill: too small", ARGUMENT, c -> c.skill(5, -1));
    add("skill: too large", ARGUMENT, c -> c.skill(5, 4));
    add("phantom: another one there", UNSUPPORTED, c -> c.phantom(9, 9, 3));
    add("phantom: a wrong facing, another one there", ARGUMENT, c -> c.phantom(9, 9, 4));
    addOn(RefusalTests::full, "phantom: eight, another one there", UNSUPPORTED, c -> c.phantom(9, 7, 3));
    addOn(RefusalTests::full, "phantom: eight", STATE, c -> c.phantom(9, 8, 3));
    addOn(RefusalTests::full, "phantom: eight, all wrong", ARGUMENT, c -> c.phantom(9, 7, 4));
  }

  private static void refusedDefinitions() {
    add("level: too small", ARGUMENT, c -> c.level(0));
    add("level: too large", ARGUMENT, c -> c.level(4));
    add("year: too small", ARGUMENT, c -> c.year(1899));
    add("year: too large", ARGUMENT, c -> c.year(2101));
    for (Doing square : new Doing[] {RefusalTests::busy, RefusalTests::full}) {
      // C has 8 acts in 1980, and versions of three years, on the full square.
      addOn(square, "define: no letter", ARGUMENT, c -> c.define('I', 1980, 'q', 'a', '-'));
      addOn(square, "define: no act", ARGUMENT, c -> c.define('C', 1980, 'z', 'a', '-'));
      addOn(square, "define: no who", ARGUMENT, c -> c.define('C', 1980, 'q', 'z', '-'));
      addOn(square, "define: no concept", ARGUMENT, c -> c.define('C', 1983, 'q', 'a', 'x'));
      addOn(square, "define: too early", ARGUMENT, c -> c.define('C', 1899, 'q', 'a', '-'));
      addOn(square, "define: too late", ARGUMENT, c -> c.define('C', 2101, 'q', 'a', '-'));
    }
    addOn(RefusalTests::full, "define: eight acts", STATE, c -> c.define('C', 1980, 'q', 'a', '-'));
    addOn(RefusalTests::full, "define: three versions", STATE, c -> c.define('C', 1983, 'q', 'a', '-'));
    add("forget", ARGUMENT, c -> c.forget('u'));
    add("timing: no letter", ARGUMENT, c -> c.timing('I', 1990, 5));
    add("timing: too few beats", ARGUMENT, c -> c.timing('A', 1990, 0));
    add("timing: too many beats", ARGUMENT, c -> c.timing('A', 1990, 100));
    add("timing: too few beats of no version", ARGUMENT, c -> c.timing('A', 1991, 0));
    add("timing: too many beats of no version", ARGUMENT, c -> c.timing('D', 1990, 100));
    add("timing: no version", ELEMENT, c -> c.timing('A', 1991, 5));
    add("timing: no version of a letter", ELEMENT, c -> c.timing('D', 1990, 5));
    add("parts: no such", ARGUMENT, c -> c.parts('I'));
    add("parts: no version", ELEMENT, c -> c.parts('D'));
    add("beatsOf: no such", ARGUMENT, c -> c.beatsOf('I'));
    add("beatsOf: no version", ELEMENT, c -> c.beatsOf('D'));
    add("levelOf: no such", ARGUMENT, c -> c.levelOf('I'));
    add("levelOf: no version", ELEMENT, c -> c.levelOf('D'));
  }

  private static void refusedCalls() {
    for (Doing square : new Doing[] {RefusalTests::busy, RefusalTests::rested, RefusalTests::waves}) {
      addOn(square, "dance: no act", ARGUMENT, c -> c.dance('z', 'a', '-', 1, 1));
      addOn(square, "dance: no who", ARGUMENT, c -> c.dance('q', 'z', '-', 1, 1));
      addOn(square, "dance: no concept", ARGUMENT, c -> c.dance('q', 'a', 'z', 1, 1));
      addOn(square, "dance: a call by some", ARGUMENT, c -> c.dance('A', 'h', '-', 1, 1));
      addOn(square, "dance: no upper number", ARGUMENT, c -> c.dance('q', 'a', '-', 0, 1));
      addOn(square, "dance: too large a lower number", ARGUMENT, c -> c.dance('q', 'a', '-', 1, 13));
      addOn(square, "dance: the lower number is less", ARGUMENT, c -> c.dance('q', 'a', '-', 2, 1));
      // No version of D holds.
      addOn(square, "dance: no version, by some", ARGUMENT, c -> c.dance('D', 'h', '-', 1, 1));
      addOn(square, "dance: no version, no concept", ARGUMENT, c -> c.dance('D', 'a', 'z', 1, 1));
      addOn(square, "dance: no version, a wrong number", ARGUMENT, c -> c.dance('D', 'a', '-', 1, 13));
      addOn(square, "dance: no version", ELEMENT, c -> c.dance('D', 'a', '-', 1, 1));
      addOn(square, "dance: no version, and a fraction", ELEMENT, c -> c.dance('D', 'a', 'T', 1, 7));
      addOn(square, "dance: f", UNSUPPORTED, c -> c.dance('q', 'a', '-', 1, 2));
      addOn(square, "dance: f, a wrong number", ARGUMENT, c -> c.dance('q', 'a', '-', 2, 14));
      addOn(square, "dance: p", UNSUPPORTED, c -> c.dance('g', 'a', '-', 1, 1));
      addOn(square, "dance: p, no concept", ARGUMENT, c -> c.dance('h', 'a', 'c', 1, 1));
      addOn(square, "dance: p by a concept", UNSUPPORTED, c -> c.dance('q', 'a', 'C', 1, 1));
      addOn(square, "dance: p behind an act", UNSUPPORTED, c -> c.dance('q', 'h', 'T', 1, 1));
    }
    addOn(RefusalTests::busy, "dance: n", UNSUPPORTED, c -> c.dance('c', 'a', '-', 1, 1));
    addOn(RefusalTests::busy, "dance: n, no who", ARGUMENT, c -> c.dance('c', 'z', '-', 1, 1));
    addOn(RefusalTests::busy, "dance: w", UNSUPPORTED, c -> c.dance('q', 'c', '-', 1, 1));
    addOn(c -> {
      c.phantom(-1, -1, 0);
      c.dance('b', 'a', '-', 1, 1);
      c.dance('b', 'a', '-', 1, 1);
      c.dance('b', 's', '-', 1, 2);
    }, "dance: b", UNSUPPORTED, c -> c.dance('u', 'h', 'P', 1, 1));
    addOn(c -> {
      rested(c);
      c.home();
      c.define('E', 1990, 'q', 's', '-');
      c.define('E', 1990, 'q', 'h', '-');
      c.define('E', 1990, 'p', 'h', '-');
      c.define('E', 1990, 'p', 's', '-');
      c.define('E', 1990, 'u', 'a', '-');
      c.dance('E', 'a', '-', 2, 6);
      c.dance('p', 'a', '-', 1, 1);
      c.dance('b', 'h', '-', 1, 2);
    }, "dance: b in the last act", UNSUPPORTED, c -> c.dance('E', 'a', '-', 1, 1));
    add("fits: no act", ARGUMENT, c -> c.fits('A', 'a', '-'));
    add("fits: no who", ARGUMENT, c -> c.fits('q', 'A', '-'));
    add("fits: no concept", ARGUMENT, c -> c.fits('q', 'a', 'A'));
  }

  private static void refusedFinishes() {
    addOn(RefusalTests::rested, "finish: nothing left", STATE, c -> c.finish());
    addOn(RefusalTests::fresh, "finish: nothing left on a new square", STATE, c -> c.finish());
    addOn(c -> {
      busy(c);
      c.level(1);
    }, "finish: n", UNSUPPORTED, c -> c.finish());
    addOn(c -> {
      rested(c);
      c.define('F', 1999, 'q', 'h', '-');
      c.define('F', 1999, 'q', 'c', '-');
      c.dance('F', 'a', '-', 1, 2);
    }, "finish: w", UNSUPPORTED, c -> c.finish());
    addOn(c -> {
      rested(c);
      c.define('F', 1999, 'q', 'h', '-');
      c.define('F', 1999, 'b', 'h', '-');
      c.define('F', 1999, 'h', 's', '-');
      c.dance('F', 'a', '-', 2, 4);
    }, "finish: p", UNSUPPORTED, c -> c.finish());
    addOn(c -> {
      rested(c);
      c.define('F', 1999, 'b', 'a', '-');
      c.define('F', 1999, 'u', 'a', '-');
      c.dance('F', 'a', '-', 1, 4);
    }, "finish: b", UNSUPPORTED, c -> c.finish());
    addOn(RefusalTests::fresh, "back: none", ELEMENT, c -> c.back());
    addOn(c -> {
      rested(c);
      c.put(0, 5, 5, 0);
    }, "back: none since one was put", ELEMENT, c -> c.back());
    add("callAt: too small", INDEX, c -> c.callAt(-1));
    add("callAt: too large", INDEX, c -> c.callAt(c.calls()));
    addOn(RefusalTests::fresh, "whom: none", ELEMENT, c -> c.whom());
    addOn(c -> {
      rested(c);
      c.dance('A', 'a', '-', 1, 6);
    }, "whom: it was danced", ELEMENT, c -> c.whom());
  }

  private static void refusedLooks() {
    for (int dancer : new int[] {-1, 8}) {
      add("isAmong: no dancer", INDEX, c -> c.isAmong(dancer, 'h'));
      add("isAmong: no dancer, no who", INDEX, c -> c.isAmong(dancer, 'z'));
      add("isAmong: no dancer, there are none such", INDEX, c -> c.isAmong(dancer, 'c'));
      add("partner: no dancer", INDEX, c -> c.partner(dancer, false, 2));
      add("partner: no dancer, no spacing", INDEX, c -> c.partner(dancer, false, 3));
      add("pair: no dancer", INDEX, c -> c.pair(dancer));
    }
    addOn(RefusalTests::rested, "isAmong: no who", ARGUMENT, c -> c.isAmong(0, 'z'));
    addOn(RefusalTests::rested, "isAmong: there are none such", ELEMENT, c -> c.isAmong(0, 'c'));
    addOn(RefusalTests::rested, "isAmong: there are no others", ELEMENT, c -> c.isAmong(0, 'e'));
    add("partner: no spacing", ARGUMENT, c -> c.partner(0, false, 3));
    add("partner: no spacing, none there", ARGUMENT, c -> c.partner(0, true, 5));
    add("partner: none face to face", ELEMENT, c -> c.partner(0, true, 2));
    add("partner: none side by side", ELEMENT, c -> c.partner(0, false, 4));
    addOn(RefusalTests::busy, "pair: none", ELEMENT, c -> c.pair(0));
    add("repairs", ARGUMENT, c -> c.repairs('-'));
    add("wayHome: too few", ARGUMENT, c -> c.wayHome(-1));
    add("wayHome: too many", ARGUMENT, c -> c.wayHome(3));
    add("wayHome: none", ELEMENT, c -> c.wayHome(0));
    addOn(c -> {
      busy(c);
      c.put(0, 9, 9, 0);
      c.dance('b', 'h', '-', 1, 2);
    }, "wayHome: none of two", ELEMENT, c -> c.wayHome(2));
    add("wayAt: too small", INDEX, c -> c.wayAt(-1));
    add("wayAt: too large", INDEX, c -> c.wayAt(1));
  }

  private static void refusedSongs() {
    add("sing: too few", ARGUMENT, c -> c.sing(7));
    add("sing: too many", ARGUMENT, c -> c.sing(129));
    add("progress: not home", UNSUPPORTED, c -> c.progress());
    addOn(RefusalTests::fresh, "progress: no figure", STATE, c -> c.progress());
    addOn(c -> {
      c.dance('b', 'a', '-', 1, 1);
      c.dance('b', 'a', '-', 1, 2);
    }, "progress: not home, no figure", UNSUPPORTED, c -> c.progress());
    addOn(c -> {
      busy(c);
      c.home();
      c.turnAll(2);
      c.dance('u', 'h', '-', 1, 2);
      c.back();
      c.dance('b', 'h', '-', 2, 2);
      c.dance('b', 'h', '-', 2, 2);
    }, "progress: home, but turned", UNSUPPORTED, c -> c.progress());
    add("hall: too few", ARGUMENT, c -> c.hall(3));
    add("hall: too many", ARGUMENT, c -> c.hall(17));
    addOn(RefusalTests::fresh, "tip: no hall", STATE, c -> c.tip());
    addOn(RefusalTests::full, "tip: 30 tips", STATE, c -> c.tip());
    add("setOf: no tip", INDEX, c -> c.setOf(2, 0));
    add("setOf: no tip ahead of the first", INDEX, c -> c.setOf(-1, 0));
    add("setOf: no couple", INDEX, c -> c.setOf(0, 9));
    add("setOf: no couple ahead of the first", INDEX, c -> c.setOf(0, -1));
    for (int couple : new int[] {-1, 9}) {
      add("met: no first couple", INDEX, c -> c.met(couple, 0));
      add("met: no other couple", INDEX, c -> c.met(0, couple));
      add("met: no couple, both the same", INDEX, c -> c.met(couple, couple));
    }
    add("met: both the same", ARGUMENT, c -> c.met(8, 8));
    addOn(RefusalTests::fresh, "doneShare: none tried", ARITHMETIC, c -> c.doneShare());
  }
}
