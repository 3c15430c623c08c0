/** Each promise of the document: ordinary inputs, the edges that it names, and wrong inputs. */
public final class PromiseTests extends Checks {
  public static void main(String[] args) throws Exception {
    for (int promise = 1; promise <= 53; promise++) {
      run(PromiseTests.class, "promise" + promise);
    }
    end("all promises are kept");
  }

  static void promise1() {
    is(all(), "-1 -3 0, 1 -3 0, 3 -1 3, 3 1 3, 1 3 2, -1 3 2, -3 1 1, -3 -1 1");
    for (int i = 0; i < 8; i++) {
      is(h.skill(i, 3), 3);
      is(h.turned(i), 0);
    }
    is(h.clearPhantoms(), 0);
    for (char call = 'A'; call <= 'H'; call++) {
      is(h.forget(call), 0);
    }
    fails(STATE, () -> h.tip());
    fails(INDEX, () -> h.setOf(0, 0));
    fails(INDEX, () -> h.met(0, 1));
    is(h.level(3), 3);
    is(h.year(2000), 2000);
    is(h.why(), '-');
    fails(ELEMENT, () -> h.whom());
    is(h.left(), 0);
    is(h.calls(), 0);
    is(h.sung(), 0);
    is(h.gone(), 0);
    is(h.beats(), 0L);
    is(h.broken() + h.clashes(), 0);
    is(h.hall(4), 0);
  }

  static void promise2() {
    is(h.home(), 0);
    h.put(0, -1, -3, 1);
    h.put(1, 0, 0, 0);
    is(h.home(), 2);
    is(at(0) + ", " + at(1), "-1 -3 0, 1 -3 0");
    h.turnAll(1);
    is(h.home(), 8);
    is(h.home(), 0);
    h.put(0, 0, -3, 0);
    h.put(2, 3, 0, 3);
    is(h.home(), 2);
    // Flow and hands begin anew, calls cannot be taken back, and nothing is left to finish.
    whole('q', 'a', '-');
    whole('p', 'a', '-');
    h.dance('b', 'a', '-', 1, 2);
    is(h.broken(), 16);
    h.home();
    is(h.broken(), 0);
    is(h.turned(0), 0);
    is(h.calls(), 0);
    is(h.left(), 0);
    whole('q', 'a', '-');
    is(h.broken(), 0);
    // As rights have gone on.
    h.home();
    h.sing(8);
    h.progress();
    whole('q', 'a', '-');
    is(h.home(), 8);
    is(at(0) + ", " + at(1) + ", " + at(7), "-1 -3 0, 3 1 3, 1 -3 0");
  }

  static void promise3() {
    h.put(3, -9, 5, 0);
    is(h.x(3), -9);
    is(h.x(0), -1);
    is(h.x(7), -3);
    fails(INDEX, () -> h.x(-1));
    fails(INDEX, () -> h.x(8));
  }

  static void promise4() {
    h.put(3, -9, 5, 0);
    is(h.y(3), 5);
    is(h.y(0), -3);
    is(h.y(7), -1);
    fails(INDEX, () -> h.y(-1));
    fails(INDEX, () -> h.y(8));
  }

  static void promise5() {
    h.put(3, -9, 5, 2);
    is(h.facing(3), 2);
    is(h.facing(0), 0);
    is(h.facing(7), 1);
    fails(INDEX, () -> h.facing(-1));
    fails(INDEX, () -> h.facing(8));
  }

  static void promise6() {
    is(h.put(2, 9, -9, 1), 3);
    is(h.put(2, -9, 9, 2), 1);
    is(at(2), "-9 9 2");
    is(h.put(2, -9, 9, 0), 2);
    is(at(2), "-9 9 0");
    fails(INDEX, () -> h.put(8, 10, 0, 0));
    fails(INDEX, () -> h.put(-1, 0, 0, 0));
    fails(ARGUMENT, () -> h.put(0, 10, 0, 0));
    fails(ARGUMENT, () -> h.put(0, -10, 0, 0));
    fails(ARGUMENT, () -> h.put(0, 0, 10, 0));
    fails(ARGUMENT, () -> h.put(0, 0, -10, 0));
    fails(ARGUMENT, () -> h.put(0, -9, 9, 4));
    fails(ARGUMENT, () -> h.put(0, -9, 9, -1));
    h.dance('u', 'a', '-', 1, 2);
    fails(UNSUPPORTED, () -> h.put(0, 1, -2, 0));
    fails(UNSUPPORTED, () -> h.put(1, -1, -2, 0));
    is(h.left(), 1);
    is(h.calls(), 1);
    h.put(0, 0, 0, 0);
    is(h.left(), 0);
    is(h.calls(), 0);
  }

  static void promise7() {
    is(h.change(0, 3), 8);
    is(at(0) + ", " + at(3), "3 1 3, -1 -3 0");
    is(h.change(0, 2), 2);
    is(h.change(1, 0), 4);
    fails(INDEX, () -> h.change(8, 8));
    fails(INDEX, () -> h.change(0, 8));
    fails(INDEX, () -> h.change(-1, 0));
    fails(INDEX, () -> h.change(0, -1));
    fails(ARGUMENT, () -> h.change(4, 4));
    h.dance('b', 'a', '-', 1, 2);
    h.change(0, 1);
    is(h.calls() + h.left(), 0);
  }

  static void promise8() {
    is(h.turnAll(1), 3);
    is(at(0) + ", " + at(1) + ", " + at(2), "3 -1 3, 3 1 3, 1 3 2");
    is(h.turnAll(2), 1);
    is(at(0), "-3 1 1");
    is(h.turnAll(3), 2);
    is(at(0), "1 3 2");
    h.put(0, 5, 7, 1);
    is(h.turnAll(1), 0);
    is(at(0) + ", " + at(1), "-7 5 0, -3 -1 1");
    fails(ARGUMENT, () -> h.turnAll(0));
    fails(ARGUMENT, () -> h.turnAll(4));
    fails(ARGUMENT, () -> h.turnAll(-1));
    h.dance('b', 'a', '-', 1, 2);
    h.turnAll(1);
    is(h.calls() + h.left(), 0);
  }

  static void promise9() {
    is(h.find(-1, -3), 0);
    is(h.find(-3, -1), 7);
    fails(ELEMENT, () -> h.find(0, 0));
    fails(ELEMENT, () -> h.find(-3, -3));
    fails(ELEMENT, () -> h.find(Integer.MIN_VALUE, 100));
    h.phantom(0, 0, 0);
    fails(ELEMENT, () -> h.find(0, 0));
  }

  static void promise10() {
    is(h.skill(0, 0), 3);
    is(h.skill(0, 2), 0);
    is(h.skill(0, 3), 2);
    is(h.skill(7, 1), 3);
    fails(INDEX, () -> h.skill(8, 4));
    fails(INDEX, () -> h.skill(-1, 0));
    fails(ARGUMENT, () -> h.skill(0, 4));
    fails(ARGUMENT, () -> h.skill(0, -1));
    // Those below the level of an act stand; if all do, it is danced all the same.
    h.skill(0, 0);
    is(whole('u', 'h', '-'), 2);
    is(at(0) + ", " + at(1), "-1 -3 0, 1 -1 0");
    h.home();
    for (int i = 0; i < 8; i++) {
      h.skill(i, 1);
    }
    is(whole('h', 'a', '-'), 1);
    is(h.isHome(), true);
    is(whole('q', 'a', '-'), 1);
    is(h.isHome(), false);
    // One who stands is nobody's partner.
    lay(-1, 0, 0, 1, 0, 2, 3, 0, 0, 5, 0, 2);
    h.skill(1, 1);
    refused('p', 0, 'h', 'a', '-');
    h.skill(0, 1);
    is(whole('h', 'a', '-'), 1);
    is(at(0) + ", " + at(1) + ", " + at(2) + ", " + at(3), "-1 0 0, 1 0 2, 4 1 1, 4 -1 3");
    h.dance('b', 'a', '-', 1, 2);
    fails(ARGUMENT, () -> h.skill(0, 4));
    is(h.left(), 1);
    h.skill(0, 1);
    is(h.left(), 0);
    is(h.calls(), 2);
  }

  static void promise11() {
    is(h.phantom(-9, 9, 0), 1);
    fails(UNSUPPORTED, () -> h.phantom(-9, 9, 3));
    for (int i = 2; i <= 8; i++) {
      is(h.phantom(9, i, 1), i);
    }
    fails(STATE, () -> h.phantom(0, 0, 0));
    fails(UNSUPPORTED, () -> h.phantom(-9, 9, 3));
    fails(ARGUMENT, () -> h.phantom(10, 9, 3));
    fails(ARGUMENT, () -> h.phantom(-10, 9, 3));
    fails(ARGUMENT, () -> h.phantom(0, 10, 3));
    fails(ARGUMENT, () -> h.phantom(0, -10, 3));
    fails(ARGUMENT, () -> h.phantom(0, 0, 4));
    fails(ARGUMENT, () -> h.phantom(0, 0, -1));
    // A phantom is a partner under the concept P, and begins where it was told in each call.
    lay(-1, 0, 0);
    is(h.phantom(1, 0, 2), 1);
    refused('p', 0, 'h', 'a', '-');
    is(whole('h', 'a', 'P'), 1);
    is(at(0), "0 1 1");
    refused('p', 0, 'h', 'a', 'P');
    h.put(0, -1, 0, 0);
    is(whole('x', 'a', 'P'), 1);
    is(at(0), "1 0 0");
    h.dance('b', 'a', '-', 1, 2);
    h.phantom(7, 7, 2);
    is(h.left(), 0);
    // They are gone behind an act that has the concept, and begin anew in the next one, but stay for a whole call.
    lay(-1, 0, 0);
    h.phantom(1, 0, 2);
    h.define('A', 2000, 'x', 'a', 'P');
    h.define('A', 2000, 'x', 'a', '-');
    refused('p', 0, 'A', 'a', '-');
    is(whole('A', 'a', 'P'), 2);
    is(at(0), "-1 0 0");
    h.define('B', 2000, 'x', 'a', 'P');
    h.define('B', 2000, 'x', 'a', 'P');
    refused('p', 0, 'B', 'a', '-');
    h.define('C', 2000, 'x', 'a', 'P');
    h.define('C', 2000, 'q', 'a', '-');
    is(whole('C', 'a', '-'), 2);
    is(at(0), "1 0 1");
    // They have the skill 3.
    lay(-1, 0, 0);
    h.phantom(1, 0, 2);
    is(whole('c', 'a', 'P'), 3);
    is(at(0), "0 -1 3");
    // The third one is a left again.
    lay(-1, 0, 0);
    h.phantom(8, 8, 2);
    h.phantom(6, 8, 2);
    h.phantom(1, 0, 2);
    refused('p', 9, 'h', 'r', 'P');
    refused('p', 0, 'r', 'l', 'P');
    // Phantoms are numbered from 8, even ones are lefts, and a dancer may be at the place of one.
    lay(0, 0, 0, -3, 0, 0);
    h.phantom(3, 0, 0);
    h.phantom(0, 0, 0);
    is(whole('u', 'a', '-'), 2);
    h.put(0, 0, 0, 0);
    refused('b', 0, 'q', 'l', 'P');
    refused('p', 0, 'g', 'l', 'P');
    h.skill(0, 0);
    refused('p', 8, 'g', 'l', 'P');
    refused('p', 1, 'g', 'r', 'P');
    h.skill(1, 0);
    refused('p', 9, 'g', 'r', 'P');
  }

  static void promise12() {
    is(h.clearPhantoms(), 0);
    h.phantom(0, 0, 0);
    h.phantom(1, 0, 0);
    h.dance('b', 'a', '-', 1, 2);
    is(h.left(), 1);
    is(h.clearPhantoms(), 2);
    is(h.left(), 0);
    is(h.clearPhantoms(), 0);
    is(h.phantom(0, 0, 0), 1);
    lay(-1, 0, 0);
    h.phantom(1, 0, 2);
    is(h.fits('h', 'a', 'P'), true);
    h.clearPhantoms();
    is(h.fits('h', 'a', 'P'), false);
  }

  static void promise13() {
    is(h.level(1), 3);
    is(h.level(2), 1);
    is(h.level(2), 2);
    fails(ARGUMENT, () -> h.level(0));
    fails(ARGUMENT, () -> h.level(4));
    is(h.level(3), 2);
    h.level(1);
    refused('n', -1, 'x', 'a', '-');
    refused('n', -1, 'o', 'a', '-');
    is(whole('q', 'a', '-'), 1);
    h.level(2);
    h.home();
    is(whole('x', 'a', '-'), 1);
    refused('n', -1, 'c', 'a', '-');
    refused('n', -1, 'r', 'a', '-');
    // The level is not among what ends a call that is left.
    h.level(3);
    lay(0, -1, 0, 0, 1, 2);
    h.dance('f', 'a', '-', 1, 3);
    h.level(1);
    is(h.left(), 2);
    fails(UNSUPPORTED, () -> h.finish());
    is(h.why(), 'n');
    h.level(2);
    is(h.finish(), 2);
  }

  static void promise14() {
    is(h.year(1900), 2000);
    is(h.year(2100), 1900);
    fails(ARGUMENT, () -> h.year(1899));
    fails(ARGUMENT, () -> h.year(2101));
    is(h.year(2000), 2100);
    h.dance('b', 'a', '-', 1, 2);
    fails(ARGUMENT, () -> h.year(0));
    is(h.left(), 1);
    h.year(2000);
    is(h.left(), 0);
    h.define('A', 1950, 'q', 'a', '-');
    h.define('A', 2050, 'c', 'a', '-');
    h.define('A', 2000, 'u', 'a', '-');
    is(h.parts('A'), 2);
    h.year(1999);
    is(h.parts('A'), 1);
    h.year(2049);
    is(h.parts('A'), 2);
    h.year(2050);
    is(h.parts('A'), 3);
    h.year(1949);
    fails(ELEMENT, () -> h.parts('A'));
    h.year(2000);
    h.define('H', 1990, 'c', 'a', '-');
    h.define('H', 1980, 'u', 'a', '-');
    is(h.parts('H'), 3);
    h.define('B', 1990, 'u', 'a', '-');
    h.define('B', 2001, 'c', 'a', '-');
    h.define('B', 1980, 'q', 'a', '-');
    is(h.parts('B'), 2);
  }

  static void promise15() {
    for (int i = 1; i <= 8; i++) {
      is(h.define('H', 1900, 'u', 'h', 'X'), i);
    }
    fails(STATE, () -> h.define('H', 1900, 'u', 'h', 'X'));
    is(h.define('H', 2100, 'r', 'e', 'C'), 1);
    is(h.define('H', 2000, 'o', 'c', 'T'), 1);
    fails(STATE, () -> h.define('H', 2001, 'u', 'h', '-'));
    is(h.define('H', 2000, 'p', 'l', 'P'), 2);
    is(h.define('A', 2001, 'g', 'r', 'O'), 1);
    fails(ARGUMENT, () -> h.define('I', 2000, 'u', 'a', '-'));
    fails(ARGUMENT, () -> h.define('@', 2000, 'u', 'a', '-'));
    fails(ARGUMENT, () -> h.define('a', 2000, 'u', 'a', '-'));
    fails(ARGUMENT, () -> h.define('H', 1900, 'z', 'a', '-'));
    fails(ARGUMENT, () -> h.define('H', 1900, 'A', 'a', '-'));
    fails(ARGUMENT, () -> h.define('H', 1900, 'u', 'b', '-'));
    fails(ARGUMENT, () -> h.define('H', 1900, 'u', 'a', 'Z'));
    fails(ARGUMENT, () -> h.define('H', 1900, 'u', 'a', (char) 0));
    fails(ARGUMENT, () -> h.define('H', 1899, 'u', 'a', '-'));
    fails(ARGUMENT, () -> h.define('H', 2101, 'u', 'a', '-'));
    h.dance('b', 'a', '-', 1, 2);
    fails(STATE, () -> h.define('H', 2001, 'u', 'h', '-'));
    is(h.left(), 1);
    h.define('A', 2001, 'g', 'r', 'O');
    is(h.left(), 0);
    for (int i = 1; i <= 8; i++) {
      is(h.define('C', 1900 + i / 8, 'u', 'h', '-'), i < 8 ? i : 1);
    }
    is(h.define('C', 1902, 'u', 'h', '-'), 1);
    is(h.define('C', 1900, 'u', 'h', '-'), 8);
    fails(STATE, () -> h.define('C', 1900, 'u', 'h', '-'));
    for (int i = 1; i <= 8; i++) {
      is(h.define('A', 1999, 'u', 'h', '-'), i);
    }
    fails(STATE, () -> h.define('A', 1999, 'u', 'h', '-'));
    h.home();
    h.define('D', 2000, 'q', 'h', '-');
    is(whole('D', 'a', '-'), 1);
    is(at(0) + ", " + at(2), "-1 -3 1, 3 -1 3");
    // Acts are danced one behind the other, each by its own dancers.
    h.define('B', 2000, 'u', 'h', '-');
    h.define('B', 2000, 'q', 's', '-');
    h.define('B', 2000, 'p', 'l', '-');
    h.home();
    is(whole('B', 'a', '-'), 4);
    is(all(), "-1 -1 3, 1 -1 0, 3 -1 3, 3 1 0, 1 1 1, -1 1 2, -3 1 1, -3 -1 2");
  }

  static void promise16() {
    is(h.forget('A'), 0);
    h.define('A', 1990, 'u', 'a', '-');
    h.define('A', 1991, 'u', 'a', '-');
    h.define('A', 1991, 'q', 'a', '-');
    h.define('B', 1991, 'c', 'a', '-');
    h.timing('A', 1991, 50);
    h.dance('b', 'a', '-', 1, 2);
    fails(ARGUMENT, () -> h.forget('I'));
    fails(ARGUMENT, () -> h.forget('u'));
    is(h.left(), 1);
    is(h.forget('A'), 2);
    is(h.left(), 0);
    is(h.forget('A'), 0);
    fails(ELEMENT, () -> h.parts('A'));
    is(h.parts('B'), 3);
    is(h.define('A', 1991, 'c', 'a', '-'), 1);
    is(h.beatsOf('A'), 6);
    is(h.parts('A'), 3);
  }

  static void promise17() {
    h.define('A', 1990, 'u', 'a', '-');
    is(h.timing('A', 1990, 1), 4);
    is(h.timing('A', 1990, 99), 1);
    is(h.beatsOf('A'), 99);
    h.define('A', 1990, 'u', 'a', '-');
    is(h.beatsOf('A'), 99);
    h.define('A', 1999, 'q', 'a', '-');
    is(h.beatsOf('A'), 2);
    is(h.timing('A', 1999, 7), 2);
    fails(ARGUMENT, () -> h.timing('I', 1990, 5));
    fails(ARGUMENT, () -> h.timing('u', 1990, 5));
    fails(ARGUMENT, () -> h.timing('B', 1990, 0));
    fails(ARGUMENT, () -> h.timing('B', 1990, 100));
    fails(ELEMENT, () -> h.timing('B', 1990, 5));
    fails(ELEMENT, () -> h.timing('A', 1991, 5));
    fails(ELEMENT, () -> h.timing('A', -5, 5));
    h.dance('b', 'a', '-', 1, 2);
    fails(ELEMENT, () -> h.timing('A', 1991, 5));
    is(h.left(), 1);
    h.timing('A', 1990, 5);
    is(h.left(), 0);
  }

  static void promise18() {
    String acts = "uqpbgfhctwxro";
    int[] due = {2, 1, 1, 2, 2, 3, 1, 3, 2, 2, 1, 1, 1};
    for (int i = 0; i < acts.length(); i++) {
      is(h.parts(acts.charAt(i)), due[i]);
    }
    h.define('A', 1990, 'u', 'a', '-');
    h.define('A', 1990, 'c', 'a', '-');
    is(h.parts('A'), 5);
    fails(ELEMENT, () -> h.parts('B'));
    fails(ARGUMENT, () -> h.parts('I'));
    fails(ARGUMENT, () -> h.parts('a'));
    fails(ARGUMENT, () -> h.parts((char) 0));
    fails(ARGUMENT, () -> h.parts((char) 60000));
  }

  static void promise19() {
    is(h.beatsOf('u'), 4);
    is(h.beatsOf('c'), 6);
    is(h.beatsOf('o'), 2);
    h.define('A', 1990, 'u', 'a', '-');
    h.define('A', 1990, 'c', 'a', '-');
    is(h.beatsOf('A'), 10);
    h.timing('A', 1990, 33);
    is(h.beatsOf('A'), 33);
    fails(ELEMENT, () -> h.beatsOf('B'));
    fails(ARGUMENT, () -> h.beatsOf('I'));
    fails(ARGUMENT, () -> h.beatsOf('a'));
  }

  static void promise20() {
    String acts = "uqpbgfhctwxro";
    int[] due = {1, 1, 1, 1, 1, 2, 2, 3, 1, 2, 2, 3, 2};
    for (int i = 0; i < acts.length(); i++) {
      is(h.levelOf(acts.charAt(i)), due[i]);
    }
    h.define('A', 1990, 'f', 'a', '-');
    h.define('A', 1990, 'q', 'a', '-');
    is(h.levelOf('A'), 2);
    h.define('A', 1995, 'q', 'a', '-');
    is(h.levelOf('A'), 1);
    fails(ELEMENT, () -> h.levelOf('B'));
    fails(ARGUMENT, () -> h.levelOf('I'));
    fails(ARGUMENT, () -> h.levelOf('z'));
  }

  static void promise21() {
    danceArguments();
    danceAlone();
    danceFaceToFace();
    danceInRows();
    danceRuns();
    danceInBoxes();
    danceByWho();
    danceCollisions();
    danceParted();
    danceTandem();
    danceCouples();
    danceConceptsInConcepts();
    danceFractions();
  }

  private static void danceArguments() {
    h = new Callerhall();
    fails(ARGUMENT, () -> h.dance('z', 'a', '-', 1, 1));
    fails(ARGUMENT, () -> h.dance('I', 'a', '-', 1, 1));
    fails(ARGUMENT, () -> h.dance('u', 'b', '-', 1, 1));
    fails(ARGUMENT, () -> h.dance('u', 'a', 'Z', 1, 1));
    fails(ARGUMENT, () -> h.dance('u', 'a', '-', 0, 1));
    fails(ARGUMENT, () -> h.dance('u', 'a', '-', 13, 13));
    fails(ARGUMENT, () -> h.dance('u', 'a', '-', 2, 1));
    fails(ARGUMENT, () -> h.dance('u', 'a', '-', 1, 13));
    fails(ARGUMENT, () -> h.dance('u', 'a', '-', 1, 0));
    fails(ARGUMENT, () -> h.dance('A', 'h', '-', 1, 1));
    fails(ARGUMENT, () -> h.dance('A', 'a', '-', 1, 0));
    fails(ELEMENT, () -> h.dance('A', 'a', '-', 1, 1));
    h.define('A', 2001, 'q', 'a', '-');
    fails(ELEMENT, () -> h.dance('A', 'a', '-', 1, 1));
    h.define('A', 2000, 'b', 'a', '-');
    is(h.dance('A', 'a', '-', 12, 12), 2);
    is(h.dance('u', 'a', '-', 6, 12), 1);
    // A level above the one told comes first, then a fraction that is not whole, then what comes.
    h.level(1);
    fails(UNSUPPORTED, () -> h.dance('c', 'h', '-', 1, 2));
    is(h.why(), 'n');
    h.level(3);
    fails(UNSUPPORTED, () -> h.dance('c', 'h', '-', 1, 2));
    is(h.why(), 'f');
    fails(UNSUPPORTED, () -> h.dance('c', 'h', '-', 1, 3));
    is(h.why(), 'p');
  }

  private static void danceAlone() {
    h = new Callerhall();
    refused('b', 0, 'u', 'a', '-');
    is(h.isHome(), true);
    is(h.dance('u', 'h', '-', 1, 2), 1);
    is(all(), "-1 -2 0, 1 -2 0, 3 -1 3, 3 1 3, 1 2 2, -1 2 2, -3 1 1, -3 -1 1");
    is(whole('q', 's', '-'), 1);
    is(all(), "-1 -2 0, 1 -2 0, 3 -1 0, 3 1 0, 1 2 2, -1 2 2, -3 1 2, -3 -1 2");
    is(whole('p', 'l', '-'), 1);
    is(all(), "-1 -2 3, 1 -2 0, 3 -1 3, 3 1 0, 1 2 1, -1 2 2, -3 1 1, -3 -1 2");
    is(whole('b', 'r', '-'), 2);
    is(all(), "-1 -2 3, 1 -2 2, 3 -1 3, 3 1 2, 1 2 1, -1 2 0, -3 1 1, -3 -1 0");
  }

  private static void danceFaceToFace() {
    lay(0, -1, 0, 0, 1, 2);
    is(h.dance('g', 'a', '-', 1, 2), 1);
    is(at(0) + ", " + at(1), "-1 0 0, 1 0 2");
    is(h.finish(), 1);
    is(at(0) + ", " + at(1), "0 1 0, 0 -1 2");
    lay(0, -1, 0, 0, 1, 2);
    is(whole('f', 'a', '-'), 3);
    is(at(0) + ", " + at(1), "0 1 1, 0 -1 1");
    lay(-2, 0, 1, 2, 0, 3);
    refused('p', 0, 'g', 'a', '-');
    is(h.dance('g', 'a', 'O', 1, 2), 1);
    is(at(0) + ", " + at(1), "0 1 1, 0 -1 3");
    is(h.finish(), 1);
    is(at(0) + ", " + at(1), "2 0 1, -2 0 3");
    // One that does not face back is no partner.
    lay(0, -1, 0, 0, 1, 0);
    refused('p', 0, 'g', 'a', '-');
    lay(0, -1, 0, 0, 1, 2, 0, 3, 2);
    refused('p', 2, 'g', 'a', '-');
  }

  private static void danceInRows() {
    lay(-1, 0, 0, 1, 0, 2);
    is(whole('h', 'a', '-'), 1);
    is(at(0) + ", " + at(1), "0 1 1, 0 -1 3");
    is(whole('h', 'a', '-'), 1);
    is(at(0) + ", " + at(1), "1 0 2, -1 0 0");
    lay(-1, 0, 2, 1, 0, 0);
    is(whole('h', 'a', '-'), 1);
    is(at(0) + ", " + at(1), "0 -1 1, 0 1 3");
    lay(-1, 0, 0, 1, 0, 0);
    refused('p', 0, 'h', 'a', '-');
    refused('p', 0, 'c', 'a', '-');
    is(h.dance('t', 'a', '-', 1, 2), 1);
    is(at(0) + ", " + at(1), "0 1 1, 0 -1 1");
    is(h.finish(), 1);
    is(at(0) + ", " + at(1), "1 0 2, -1 0 2");
    is(h.dance('w', 'a', '-', 1, 2), 1);
    is(at(0) + ", " + at(1), "0 1 1, 0 -1 1");
    is(h.finish(), 1);
    is(at(0) + ", " + at(1), "-1 0 0, 1 0 0");
    is(whole('x', 'a', '-'), 1);
    is(at(0) + ", " + at(1), "1 0 0, -1 0 0");
    lay(-1, 0, 0, 1, 0, 2);
    refused('p', 0, 'w', 'a', '-');
    is(whole('c', 'a', '-'), 3);
    is(at(0) + ", " + at(1), "0 -1 3, 0 1 1");
    is(whole('x', 'a', '-'), 1);
    is(at(0) + ", " + at(1), "0 1 3, 0 -1 1");
    is(h.pair(0), 'l');
    is(whole('t', 'a', '-'), 2);
    is(at(0) + ", " + at(1), "0 -1 1, 0 1 3");
    // Rows that lie along y, from the least y on; an odd last one has none.
    lay(0, 5, 1, 0, 3, 1, 0, 1, 1);
    refused('p', 0, 'x', 'a', '-');
    h.skill(0, 0);
    is(whole('x', 'a', '-'), 1);
    is(at(1) + ", " + at(2), "0 1 1, 0 3 1");
    lay(5, 0, 0, 1, 0, 2, 3, 0, 0);
    refused('p', 0, 'x', 'a', '-');
    lay(3, 0, 0, 1, 0, 2, 5, 0, 0);
    refused('p', 2, 't', 'a', '-');
    // Bodies that face along a row are not in it.
    lay(-1, 0, 1, 1, 0, 1);
    refused('p', 0, 'x', 'a', '-');
    lay(-1, 0, 0, 1, 0, 1);
    refused('p', 0, 'x', 'a', '-');
    // The midst of two of whom one has passed another body is taken towards 0.
    lay(-3, -1, 0, -1, -1, 2, -3, 1, 0, -1, 1, 2);
    is(h.dance('t', 'a', '-', 1, 2), 1);
    is(at(0) + ", " + at(1) + ", " + at(2) + ", " + at(3), "-2 1 1, -2 -2 3, -2 2 1, -2 -1 3");
    is(h.finish(), 1);
    is(at(0) + ", " + at(1) + ", " + at(2) + ", " + at(3), "-1 0 2, -4 0 0, 0 0 2, -3 0 0");
  }

  private static void danceRuns() {
    lay(-1, 0, 0, 1, 0, 0);
    refused('p', 0, 'r', 'a', '-');
    is(whole('r', 'l', '-'), 1);
    is(at(0) + ", " + at(1), "1 0 2, -1 0 0");
    is(h.turned(0), 2);
    is(h.turned(1), 0);
    is(whole('r', 'r', '-'), 1);
    is(at(0) + ", " + at(1), "-1 0 2, 1 0 2");
    // A dancer who cannot dance it is a partner in it.
    h.skill(1, 2);
    is(whole('r', 'a', '-'), 1);
    is(at(0) + ", " + at(1), "1 0 0, -1 0 2");
    h.put(1, 3, 0, 1);
    refused('p', 0, 'r', 'a', '-');
    h.skill(0, 2);
    is(whole('r', 'a', '-'), 1);
    is(at(0) + ", " + at(1), "1 0 0, 3 0 1");
  }

  private static void danceInBoxes() {
    lay(-1, -1, 0, -1, 1, 1, 1, 1, 2, 1, -1, 3);
    is(whole('o', 'a', '-'), 1);
    is(at(0) + ", " + at(1) + ", " + at(2) + ", " + at(3), "-1 1 0, 1 1 1, 1 -1 2, -1 -1 3");
    is(h.turned(0), 0);
    lay(-1, -1, 2, -1, 1, 0, 1, 1, 0, 1, -1, 2);
    is(whole('o', 'a', '-'), 1);
    is(at(0) + ", " + at(1) + ", " + at(2) + ", " + at(3), "1 -1 0, 1 1 2, -1 1 2, -1 -1 0");
    is(h.turned(0), 2);
    lay(-2, -2, 0, -2, 2, 1, 2, 2, 2, 2, -2, 3);
    refused('p', 0, 'o', 'a', '-');
    is(whole('o', 'a', 'O'), 1);
    is(at(0) + ", " + at(3), "-2 2 0, -2 -2 3");
    // Boxes are taken from the least corner on: the middle two of six belong to the first one.
    lay(0, 0, 0, 0, 2, 0, 2, 0, 0, 2, 2, 0, 4, 0, 0, 4, 2, 0);
    refused('p', 4, 'o', 'a', '-');
  }

  private static void danceByWho() {
    h = new Callerhall();
    refused('w', -1, 'u', 'c', '-');
    refused('w', -1, 'u', 'e', '-');
    h.put(0, 0, 0, 0);
    h.put(2, 0, 1, 0);
    h.put(4, 1, 0, 0);
    refused('w', -1, 'u', 'c', '-');
    h.put(7, -3, 0, 0);
    is(whole('q', 'c', '-'), 1);
    is(all(), "0 0 1, 1 -3 0, 0 1 1, 3 1 3, 1 0 1, -1 3 2, -3 1 1, -3 0 1");
    is(whole('q', 'e', '-'), 1);
    is(all(), "0 0 1, 1 -3 1, 0 1 1, 3 1 0, 1 0 1, -1 3 3, -3 1 2, -3 0 1");
    // With a phantom there are nine bodies, and four in the nearer half.
    h.phantom(9, 9, 0);
    is(whole('p', 'c', 'P'), 1);
    is(all(), "0 0 0, 1 -3 1, 0 1 0, 3 1 0, 1 0 0, -1 3 3, -3 1 2, -3 0 0");
  }

  private static void danceCollisions() {
    lay(0, -1, 0, 0, 1, 2);
    is(h.dance('u', 'a', '-', 1, 2), 1);
    is(at(0) + ", " + at(1), "-1 0 0, 1 0 2");
    is(h.finish(), 1);
    is(at(0) + ", " + at(1), "-1 1 0, 1 -1 2");
    lay(1, 0, 3, -1, 0, 1);
    is(h.dance('u', 'a', '-', 1, 2), 1);
    is(at(0) + ", " + at(1), "0 -1 3, 0 1 1");
    // One of both stands.
    lay(0, -1, 0, 0, 0, 2);
    refused('b', 0, 'u', 'l', '-');
    is(at(0) + ", " + at(1), "0 -1 0, 0 0 2");
    // They do not face each other's way.
    lay(0, -1, 0, 1, 0, 3);
    refused('b', 0, 'u', 'a', '-');
    lay(9, 9, 0, 0, -1, 0, 1, 0, 3);
    refused('b', 1, 'u', 'a', '-');
    // A third one comes there.
    lay(0, -1, 0, 0, 1, 2, 1, 0, 3);
    refused('b', 0, 'u', 'a', '-');
    // One who passes meets another body.
    lay(0, -1, 0, 0, 1, 2, 1, 0, 0);
    h.skill(2, 0);
    refused('b', 1, 'u', 'a', '-');
    // In the second part one of both has passed already.
    lay(0, -2, 0, 0, 2, 2);
    is(whole('u', 'a', '-'), 2);
    is(at(0) + ", " + at(1), "-1 0 0, 1 0 2");
  }

  private static void danceParted() {
    lay(-1, 1, 0, 1, 1, 0);
    refused('p', 0, 'x', 'a', 'X');
    is(whole('x', 'a', 'Y'), 1);
    lay(-3, 0, 0, -1, 0, 0, 1, 0, 0, 3, 0, 0);
    is(whole('x', 'a', 'X'), 1);
    is(at(0) + ", " + at(3), "-1 0 0, 1 0 0");
    refused('p', 0, 'x', 'a', 'Y');
    lay(-5, 1, 0, -3, 1, 0, -1, 1, 0, 1, 1, 0, 3, 1, 0, 5, 1, 0);
    refused('p', 2, 'x', 'a', 'X');
    is(whole('x', 'a', 'Y'), 1);
    is(at(2) + ", " + at(3), "1 1 0, -1 1 0");
    lay(0, 1, 0, 2, 1, 0);
    refused('p', 0, 'x', 'a', 'X');
    is(whole('q', 'a', 'X'), 1);
    lay(0, 1, 1, 0, 3, 1);
    refused('p', 0, 'x', 'a', 'X');
    is(whole('x', 'a', 'Y'), 1);
    lay(0, 1, 0, 0, 3, 2);
    refused('p', 0, 'g', 'a', 'X');
    is(whole('g', 'a', 'Y'), 2);
    lay(1, 0, 1, 3, 0, 3);
    refused('p', 0, 'g', 'a', 'Y');
    is(whole('g', 'a', 'X'), 2);
    lay(1, -1, 0, 1, 1, 2);
    refused('p', 0, 'g', 'a', 'Y');
    is(whole('g', 'a', 'X'), 2);
    lay(-1, 1, 0, -1, 3, 2, 1, 1, 0, 1, 3, 2);
    refused('p', 0, 'o', 'a', 'X');
    is(whole('o', 'a', 'Y'), 1);
    lay(-1, 1, 0, 3, 1, 0);
    refused('p', 0, 'x', 'a', '-');
    is(whole('x', 'a', 'O'), 1);
    is(at(0), "3 1 0");
    lay(-3, 1, 0, -1, 1, 0, 1, 1, 0, 3, 1, 0);
    is(whole('t', 'a', 'O'), 2);
    is(at(0) + ", " + at(2) + ", " + at(1), "1 1 2, -3 1 2, 3 1 2");
  }

  private static void danceTandem() {
    lay(COLUMNS);
    is(whole('u', 'a', 'T'), 2);
    is(at(0) + ", " + at(1) + ", " + at(4), "-1 1 0, -1 3 0, 1 -1 2");
    // Units along y are halved along it: both columns are two units, by 2 from each other after x.
    lay(LINES);
    refused('p', -1, 'u', 'a', 'T');
    lay(COLUMNS);
    h.put(0, -1, -4, 0);
    refused('p', -1, 'u', 'a', 'T');
    lay(-1, -2, 0, -1, 0, 0, -1, 2, 0, -1, 4, 0, 1, 4, 2, 1, 2, 2, 1, 0, 2, 1, -2, 2);
    refused('p', -1, 'u', 'a', 'T');
    // All turn by a quarter: the units lie along x then.
    lay(COLUMNS);
    is(whole('q', 'a', 'T'), 1);
    is(at(0) + ", " + at(1) + ", " + at(4) + ", " + at(5), "-3 -1 1, -1 -1 1, 3 1 3, 1 1 3");
    lay(COLUMNS);
    refused('w', -1, 'q', 'l', 'T');
    refused('p', -1, 'q', 'h', 'T');
    is(whole('b', 'h', 'T'), 2);
  }

  private static void danceCouples() {
    lay(LINES);
    is(whole('x', 'a', 'C'), 1);
    is(at(0) + ", " + at(1) + ", " + at(2) + ", " + at(3), "1 -1 0, 3 -1 0, -3 -1 0, -1 -1 0");
    lay(WAVES);
    refused('p', -1, 'x', 'a', 'C');
    lay(LINES);
    h.put(0, -2, -1, 0);
    refused('p', -1, 'x', 'a', 'C');
    // A unit's number is that of its left, it is among lefts if both of it are, and the lower skill is its own.
    lay(LINES);
    refused('w', -1, 'u', 'l', 'C');
    refused('w', -1, 'u', 'r', 'C');
    h.change(1, 2);
    is(h.dance('u', 'l', 'C', 1, 2), 1);
    is(at(0) + ", " + at(2) + ", " + at(1), "-3 0 0, -1 0 0, 1 -1 0");
    lay(LINES);
    h.change(0, 1);
    h.skill(0, 1);
    refused('p', 2, 'x', 'a', 'C');
    lay(LINES);
    refused('b', 0, 'u', 'h', 'C');
    is(h.dance('u', 'h', 'C', 1, 2), 1);
    is(at(0) + ", " + at(1) + ", " + at(2), "-3 0 0, -1 0 0, 1 -1 0");
  }

  private static void danceConceptsInConcepts() {
    lay(LINES);
    h.define('A', 2000, 'x', 'a', 'C');
    h.define('A', 2000, 'x', 'a', '-');
    is(whole('A', 'a', '-'), 2);
    is(at(0) + ", " + at(1) + ", " + at(2) + ", " + at(3), "3 -1 0, 1 -1 0, -1 -1 0, -3 -1 0");
    refused('p', 1, 'A', 'a', 'X');
  }

  private static void danceFractions() {
    h = new Callerhall();
    h.define('A', 2000, 'q', 'h', '-');
    h.define('A', 2000, 'u', 's', '-');
    h.define('A', 2000, 'g', 'a', '-');
    is(h.parts('A'), 5);
    refused('p', 0, 'A', 'a', '-');
    is(h.dance('A', 'a', '-', 2, 5), 2);
    is(at(0) + ", " + at(2), "-1 -3 1, 2 -1 3");
    is(h.left(), 3);
    fails(UNSUPPORTED, () -> h.finish());
    is(h.why(), 'p');
    is(at(0) + ", " + at(2), "-1 -3 1, 2 -1 3");
    is(h.left(), 3);
  }

  static void promise22() {
    fails(STATE, () -> h.finish());
    h.dance('b', 'a', '-', 1, 2);
    is(h.finish(), 1);
    is(at(0), "-1 -3 2");
    fails(STATE, () -> h.finish());
    // What is left of several acts, as if the whole call had been danced at once.
    h.define('A', 2000, 'u', 'h', '-');
    h.define('A', 2000, 'f', 'h', '-');
    h.home();
    is(h.dance('A', 'a', '-', 1, 5), 1);
    is(at(0), "-1 -2 0");
    is(h.left(), 4);
    is(h.finish(), 4);
    is(at(0) + ", " + at(1), "-1 1 1, 0 1 3");
    is(h.left(), 0);
    // Units that pass between are not as a fraction ends, but as they are in the call.
    layUnitsThatPass();
    is(whole('u', 'a', 'C'), 2);
    is(at(0) + ", " + at(1) + ", " + at(6) + ", " + at(7), "-5 1 0, -3 1 0, 1 -1 2, -1 -1 2");
    String end = all();
    layUnitsThatPass();
    is(h.dance('u', 'a', 'C', 1, 2), 1);
    is(h.finish(), 1);
    is(all(), end);
    // A call that was tried but not danced changes nothing.
    h.home();
    h.dance('b', 'a', '-', 1, 2);
    refused('p', 0, 'x', 'h', 'X');
    is(h.finish(), 1);
    // Another call, or anything told, ends what is left.
    h.dance('b', 'a', '-', 1, 2);
    h.dance('q', 'a', '-', 1, 1);
    fails(STATE, () -> h.finish());
    h.dance('b', 'a', '-', 1, 2);
    h.back();
    fails(STATE, () -> h.finish());
  }

  private static void layUnitsThatPass() {
    lay(-3, -1, 0, -1, -1, 0, 5, 5, 0, 7, 5, 0, 7, -5, 2, 5, -5, 2, -1, 1, 2, -3, 1, 2);
  }

  static void promise23() {
    is(h.left(), 0);
    h.dance('b', 'a', '-', 1, 2);
    is(h.left(), 1);
    h.sing(20);
    h.hall(5);
    h.tip();
    h.level(1);
    fails(ELEMENT, () -> h.wayHome(0));
    h.fits('u', 'a', '-');
    h.isConsistent();
    fails(ARGUMENT, () -> h.dance('u', 'a', '-', 1, 0));
    fails(ARGUMENT, () -> h.put(0, 0, 0, 4));
    is(h.left(), 1);
    h.finish();
    is(h.left(), 0);
    h.dance('b', 'a', '-', 2, 2);
    is(h.left(), 0);
    h.define('A', 2000, 'b', 'a', '-');
    for (int i = 0; i < 7; i++) {
      h.define('A', 2000, 'q', 'a', '-');
    }
    h.dance('A', 'a', '-', 2, 9);
    is(h.left(), 7);
    h.dance('A', 'a', '-', 1, 9);
    is(h.left(), 8);
  }

  static void promise24() {
    is(h.why(), '-');
    h.level(1);
    refused('n', -1, 'c', 'a', '-');
    h.level(3);
    fails(UNSUPPORTED, () -> h.dance('q', 'a', '-', 1, 2));
    is(h.why(), 'f');
    fails(ARGUMENT, () -> h.dance('q', 'a', '-', 1, 0));
    fails(STATE, () -> h.finish());
    fails(ELEMENT, () -> h.dance('A', 'a', '-', 1, 1));
    h.fits('x', 'a', 'T');
    is(h.why(), 'f');
    refused('w', -1, 'q', 'c', '-');
    refused('p', 0, 'h', 'a', '-');
    refused('p', -1, 'h', 'a', 'T');
    refused('b', 0, 'u', 'a', '-');
    h.dance('b', 'a', '-', 1, 2);
    is(h.why(), '-');
  }

  static void promise25() {
    fails(ELEMENT, () -> h.whom());
    refused('p', 0, 'h', 'a', '-');
    h.skill(0, 0);
    refused('p', 1, 'h', 'a', '-');
    refused('p', 2, 'h', 's', '-');
    is(whole('t', 's', '-'), 2);
    fails(ELEMENT, () -> h.whom());
    refused('w', -1, 'q', 'c', '-');
    refused('p', -1, 'q', 'a', 'T');
    // A unit is told by its number, that of its left.
    lay(LINES);
    h.skill(3, 1);
    refused('p', 0, 'x', 'a', 'C');
    h.change(0, 1);
    refused('p', 1, 'x', 'a', 'C');
    h.skill(5, 1);
    refused('p', 1, 'x', 'a', 'C');
    h.change(0, 6);
    h.change(1, 7);
    refused('p', 0, 'x', 'a', 'C');
    // The lowest one who collided.
    lay(4, 4, 0, 0, -1, 0, 1, 0, 3);
    refused('b', 1, 'u', 'a', '-');
  }

  static void promise26() {
    is(h.fits('u', 'h', '-'), true);
    is(h.fits('h', 'a', '-'), false);
    is(h.fits('t', 'a', '-'), true);
    is(h.fits('t', 'c', '-'), false);
    is(h.fits('q', 'a', 'T'), false);
    is(h.fits('t', 'a', 'X'), false);
    is(h.why(), '-');
    is(h.isHome(), true);
    is(h.calls(), 0);
    // Whatever the level, but as the skills are, and with all its parts.
    h.level(1);
    is(h.fits('w', 'a', '-'), true);
    h.skill(0, 1);
    is(h.fits('w', 'a', '-'), false);
    h.level(3);
    lay(0, -2, 0, 0, 0, 2, 5, 5, 0);
    h.skill(1, 0);
    is(h.fits('u', 'a', '-'), false);
    is(h.dance('u', 'a', '-', 1, 2), 1);
    fails(ARGUMENT, () -> h.fits('A', 'a', '-'));
    fails(ARGUMENT, () -> h.fits('u', 'z', '-'));
    fails(ARGUMENT, () -> h.fits('u', 'a', 'x'));
  }

  static void promise27() {
    fails(ELEMENT, () -> h.back());
    whole('u', 'h', '-');
    h.dance('f', 'h', '-', 1, 3);
    h.finish();
    h.dance('b', 'a', '-', 1, 2);
    is(h.back(), 2);
    is(h.left(), 0);
    is(at(0) + ", " + at(1), "-1 1 1, 0 1 3");
    is(h.back(), 1);
    is(at(0) + ", " + at(1), "-1 -1 0, 1 -1 0");
    is(h.turned(0), 1);
    is(h.back(), 0);
    is(h.isHome(), true);
    fails(ELEMENT, () -> h.back());
    // At most 20, and flow, hands and what was sung stay.
    h.sing(100);
    for (int i = 0; i < 25; i++) {
      whole('q', 'a', '-');
    }
    whole('p', 'a', '-');
    is(h.calls(), 20);
    for (int i = 19; i >= 0; i--) {
      is(h.back(), i);
    }
    is(at(0), "-1 -3 2");
    is(h.broken(), 10);
    is(h.turned(0), -1);
    is(h.sung(), 52);
    is(h.why(), '-');
    fails(ELEMENT, () -> h.back());
    whole('q', 'a', '-');
    h.change(0, 1);
    fails(ELEMENT, () -> h.back());
    whole('q', 'a', '-');
    h.put(0, 0, 0, 0);
    fails(ELEMENT, () -> h.back());
    whole('q', 'a', '-');
    h.turnAll(1);
    fails(ELEMENT, () -> h.back());
    whole('q', 'a', '-');
    h.home();
    fails(ELEMENT, () -> h.back());
    whole('q', 'a', '-');
    h.skill(0, 1);
    h.year(1990);
    h.phantom(0, 0, 0);
    is(h.back(), 0);
  }

  static void promise28() {
    is(h.calls(), 0);
    for (int i = 1; i <= 20; i++) {
      whole('q', 'a', '-');
      is(h.calls(), i);
    }
    whole('q', 'a', '-');
    is(h.calls(), 20);
    h.dance('b', 'a', '-', 1, 2);
    h.finish();
    is(h.calls(), 20);
    h.back();
    is(h.calls(), 19);
    refused('p', 0, 'h', 'a', '-');
    is(h.calls(), 19);
    h.home();
    is(h.calls(), 0);
  }

  static void promise29() {
    fails(INDEX, () -> h.callAt(0));
    h.define('B', 2000, 'q', 'a', '-');
    whole('q', 'a', '-');
    whole('B', 'a', '-');
    h.dance('b', 'a', '-', 1, 2);
    h.finish();
    is(h.callAt(0), 'b');
    is(h.callAt(1), 'B');
    is(h.callAt(2), 'q');
    fails(INDEX, () -> h.callAt(3));
    fails(INDEX, () -> h.callAt(-1));
    h.back();
    is(h.callAt(0), 'B');
    for (int i = 0; i < 20; i++) {
      whole(i == 0 ? 'p' : 'q', 'a', '-');
    }
    is(h.callAt(19), 'p');
    fails(INDEX, () -> h.callAt(20));
    whole('u', 's', '-');
    is(h.callAt(0), 'u');
    is(h.callAt(19), 'q');
  }

  static void promise30() {
    String[] due = {"ahl", "ahr", "asl", "asr", "ahl", "ahr", "asl", "asr"};
    for (int i = 0; i < 8; i++) {
      int dancer = i;
      for (char who : "ahslr".toCharArray()) {
        is(h.isAmong(i, who), due[i].indexOf(who) >= 0);
      }
      fails(ELEMENT, () -> h.isAmong(dancer, 'c'));
      fails(ELEMENT, () -> h.isAmong(dancer, 'e'));
    }
    fails(INDEX, () -> h.isAmong(8, 'z'));
    fails(INDEX, () -> h.isAmong(-1, 'a'));
    fails(ARGUMENT, () -> h.isAmong(0, 'z'));
    fails(ARGUMENT, () -> h.isAmong(0, '-'));
    lay(COLUMNS);
    is(h.isAmong(0, 'c'), false);
    is(h.isAmong(0, 'e'), true);
    is(h.isAmong(1, 'c'), true);
    is(h.isAmong(1, 'e'), false);
    h.skill(1, 0);
    h.phantom(0, 0, 0);
    is(h.isAmong(1, 'c'), true);
    h.put(0, -1, -2, 0);
    is(h.isAmong(0, 'c'), false);
    h.put(1, -1, -3, 0);
    is(h.isAmong(0, 'c'), true);
    h.put(1, -1, 2, 0);
    fails(ELEMENT, () -> h.isAmong(0, 'c'));
  }

  static void promise31() {
    is(h.partner(0, false, 2), 1);
    is(h.partner(1, false, 2), 0);
    is(h.partner(3, false, 2), 2);
    fails(ELEMENT, () -> h.partner(0, false, 4));
    fails(ELEMENT, () -> h.partner(0, true, 2));
    fails(INDEX, () -> h.partner(8, true, 3));
    fails(INDEX, () -> h.partner(-1, true, 2));
    fails(ARGUMENT, () -> h.partner(0, true, 3));
    fails(ARGUMENT, () -> h.partner(0, false, 0));
    lay(0, -1, 0, 0, 1, 2, 0, 5, 2, -4, 1, 2);
    is(h.partner(0, true, 2), 1);
    is(h.partner(1, true, 2), 0);
    fails(ELEMENT, () -> h.partner(2, true, 4));
    is(h.partner(3, false, 4), 1);
    fails(ELEMENT, () -> h.partner(2, false, 4));
    // If all dance, whatever the skills.
    h.skill(1, 0);
    is(h.partner(0, true, 2), 1);
    // Rows are parted from the least place on; an odd last one has none.
    lay(3, 0, 0, 1, 0, 2, -1, 0, 0);
    is(h.partner(1, false, 2), 2);
    fails(ELEMENT, () -> h.partner(0, false, 2));
    h.phantom(5, 0, 0);
    fails(ELEMENT, () -> h.partner(0, false, 2));
  }

  static void promise32() {
    is(h.pair(0), 'c');
    is(h.pair(7), 'c');
    fails(INDEX, () -> h.pair(8));
    fails(INDEX, () -> h.pair(-1));
    lay(-1, 0, 0, 1, 0, 2, -1, 2, 2, 1, 2, 0, 5, 0, 1, 5, 2, 3, 7, 0, 3, 7, 2, 1);
    is(h.pair(0), 'r');
    is(h.pair(1), 'r');
    is(h.pair(2), 'l');
    is(h.pair(3), 'l');
    is(h.pair(4), 'l');
    is(h.pair(5), 'l');
    is(h.pair(6), 'r');
    h.put(0, -2, 0, 0);
    fails(ELEMENT, () -> h.pair(0));
    fails(ELEMENT, () -> h.pair(1));
  }

  private static void layShape(char shape) {
    int[] x = {-3, -1, 1, 3, -3, -1, 1, 3};
    int[] y = {-1, -1, -1, -1, 1, 1, 1, 1};
    h = new Callerhall();
    for (int i = 0; i < 8; i++) {
      h.put(i, 9, 9 - i, 0);
    }
    for (int i = 0; i < 8; i++) {
      boolean isFirst = i % 2 == 0;
      // Whoever is where.
      int who = i * 3 % 8;
      switch (shape) {
        case 'l': h.put(who, x[i], y[i], i < 4 ? 0 : 2); break;
        case 'k': h.put(who, x[i], y[i], i < 4 ? 2 : 0); break;
        case 'w': h.put(who, x[i], y[i], isFirst ? 0 : 2); break;
        case 'v': h.put(who, x[i], y[i], isFirst ? 2 : 0); break;
        case 'e': h.put(who, y[i], x[i], isFirst ? 0 : 2); break;
        default: h.put(who, 2 * i - 7, 0, isFirst ? 0 : 2);
      }
    }
  }

  static void promise33() {
    is(h.formation(), 's');
    h.change(0, 5);
    is(h.formation(), 's');
    h.turnAll(1);
    is(h.formation(), 's');
    whole('q', 'h', '-');
    is(h.formation(), '-');
    for (char shape : "lkwvet".toCharArray()) {
      for (int turn = 0; turn < 4; turn++) {
        layShape(shape);
        if (turn > 0) {
          h.turnAll(turn);
        }
        is(h.formation(), shape);
        h.put(3, h.x(3), h.y(3), (h.facing(3) + 2) % 4);
        is(h.formation(), '-');
      }
    }
  }

  static void promise34() {
    is(h.repairs('s'), 0);
    is(h.repairs('l'), 8);
    h.put(0, 0, 0, 0);
    h.put(1, 1, -3, 1);
    is(h.repairs('s'), 2);
    h.turnAll(3);
    is(h.repairs('s'), 2);
    for (char shape : "lkwvet".toCharArray()) {
      layShape(shape);
      is(h.repairs(shape), 0);
      h.turnAll(3);
      is(h.repairs(shape), 0);
      h.put(2, 9, -9, 0);
      is(h.repairs(shape), 1);
    }
    layShape('l');
    is(h.repairs('w'), 4);
    is(h.repairs('k'), 8);
    is(h.repairs('v'), 4);
    fails(ARGUMENT, () -> h.repairs('-'));
    fails(ARGUMENT, () -> h.repairs('a'));
    fails(ARGUMENT, () -> h.repairs('S'));
  }

  static void promise35() {
    is(h.isHome(), true);
    for (int i = 0; i < 4; i++) {
      h.turnAll(1);
      is(h.isHome(), true);
    }
    h.change(0, 2);
    is(h.isHome(), false);
    h.home();
    h.put(5, -1, 3, 1);
    is(h.isHome(), false);
    h.put(5, -1, 2, 2);
    is(h.isHome(), false);
    h.home();
    h.sing(8);
    h.progress();
    is(h.isHome(), true);
    h.turnAll(2);
    is(h.isHome(), true);
    h.change(1, 3);
    is(h.isHome(), false);
  }

  static void promise36() {
    is(h.isSymmetric(), true);
    h.turnAll(1);
    is(h.isSymmetric(), true);
    h.put(0, 0, 0, 0);
    is(h.isSymmetric(), false);
    h.home();
    h.put(0, -1, -3, 1);
    is(h.isSymmetric(), false);
    h.put(4, 1, 3, 3);
    is(h.isSymmetric(), true);
    h.put(7, -3, -2, 1);
    is(h.isSymmetric(), false);
    h.put(7, -4, -1, 1);
    is(h.isSymmetric(), false);
  }

  static void promise37() {
    is(h.turned(0), 0);
    whole('b', 'h', '-');
    is(h.turned(0), 2);
    is(h.turned(2), 0);
    whole('p', 'a', '-');
    is(h.turned(0), -1);
    whole('u', 'h', '-');
    is(h.turned(0), 0);
    h.dance('b', 'a', '-', 1, 2);
    is(h.turned(0), 1);
    h.finish();
    is(h.turned(0), 1);
    refused('p', 0, 'h', 'a', '-');
    is(h.turned(0), 1);
    fails(INDEX, () -> h.turned(8));
    fails(INDEX, () -> h.turned(-1));
    // Quarters of units are those of both of it, and those to the left are taken off.
    lay(COLUMNS);
    whole('p', 'a', 'T');
    is(h.turned(7), -1);
    h.define('A', 2000, 'q', 'l', '-');
    h.define('A', 2000, 'p', 'a', '-');
    h.define('A', 2000, 'p', 'r', '-');
    whole('A', 'a', '-');
    is(h.turned(0), 0);
    is(h.turned(1), -2);
    h.put(0, 0, 0, 0);
    is(h.turned(1), -2);
    h.home();
    is(h.turned(1), 0);
  }

  static void promise38() {
    whole('q', 'a', '-');
    is(h.broken(), 0);
    whole('u', 'h', '-');
    is(h.broken(), 0);
    whole('p', 'h', '-');
    is(h.broken(), 4);
    whole('p', 'a', '-');
    is(h.broken(), 8);
    whole('p', 'a', '-');
    is(h.broken(), 8);
    h.back();
    h.put(0, 9, 9, 0);
    is(h.broken(), 8);
    // A finish counts by what it adds to the fraction.
    h.home();
    is(h.broken(), 0);
    h.define('A', 2000, 'q', 'a', '-');
    h.define('A', 2000, 'p', 'a', '-');
    h.define('A', 2000, 'p', 'h', '-');
    whole('A', 'a', '-');
    is(h.broken(), 0);
    h.dance('A', 'a', '-', 1, 3);
    is(h.broken(), 4);
    h.finish();
    is(h.broken(), 12);
    is(h.turned(0), -2);
    h.sing(8);
    h.home();
    h.progress();
    is(h.broken(), 0);
  }

  static void promise39() {
    lay(-1, 0, 0, 1, 0, 2);
    whole('h', 'a', '-');
    is(h.clashes(), 0);
    whole('h', 'a', '-');
    is(h.clashes(), 2);
    whole('x', 'a', '-');
    whole('t', 'a', '-');
    is(h.pair(0), 'l');
    is(h.clashes(), 2);
    h.back();
    is(h.clashes(), 2);
    whole('c', 'a', '-');
    is(h.clashes(), 4);
    // Once in each act; what is added by a finish is none, if the act began in the fraction.
    h.dance('c', 'a', '-', 1, 3);
    is(h.clashes(), 6);
    h.finish();
    is(h.clashes(), 6);
    // The first hand of a call counts, and the last one is kept.
    h.define('A', 2000, 'h', 'a', '-');
    h.define('A', 2000, 'x', 'a', '-');
    h.define('A', 2000, 'h', 'a', '-');
    is(h.pair(0), 'l');
    whole('A', 'a', '-');
    is(h.clashes(), 8);
    is(h.pair(0), 'r');
    whole('x', 'a', '-');
    whole('h', 'a', '-');
    is(h.clashes(), 8);
    // Couples take no hands.
    h.home();
    is(h.clashes(), 0);
    whole('t', 's', '-');
    is(h.clashes(), 0);
    // Both of a unit take hands.
    lay(-3, -1, 0, -1, -1, 0, -3, 5, 0, -1, 5, 0, 1, -1, 2, 3, -1, 2, 1, 5, 2, 3, 5, 2);
    whole('t', 'a', 'C');
    whole('t', 'h', 'C');
    is(h.clashes(), 4);
  }

  static void promise40() {
    is(h.wayHome(0), 0);
    h.turnAll(1);
    is(h.wayHome(2), 0);
    fails(ARGUMENT, () -> h.wayHome(-1));
    fails(ARGUMENT, () -> h.wayHome(3));
    whole('b', 'a', '-');
    fails(ELEMENT, () -> h.wayHome(0));
    is(h.wayHome(1), 1);
    is(h.wayAt(0), 'b');
    h.home();
    whole('q', 'a', '-');
    is(h.wayHome(2), 1);
    is(h.wayAt(0), 'p');
    // As if all had the skill 3, whatever the level.
    h.home();
    whole('x', 'a', '-');
    h.skill(0, 0);
    h.level(1);
    is(h.wayHome(2), 1);
    is(h.wayAt(0), 'x');
    h.level(3);
    h.skill(0, 3);
    whole('q', 'a', '-');
    fails(ELEMENT, () -> h.wayHome(1));
    is(h.wayAt(0), 'x');
    is(h.wayHome(2), 2);
    is(h.wayAt(0), 'q');
    is(h.wayAt(1), 't');
    h.home();
    whole('b', 'a', '-');
    h.dance('u', 'a', '-', 1, 2);
    h.finish();
    whole('b', 'a', '-');
    is(h.wayHome(2), 1);
    is(h.wayAt(0), 'u');
    whole('q', 'a', '-');
    is(h.wayHome(2), 2);
    is(h.wayAt(0) + "" + h.wayAt(1), "pu");
    h.back();
    whole('x', 'a', '-');
    is(h.wayHome(2), 2);
    is(h.wayAt(0) + "" + h.wayAt(1), "ux");
    h.home();
    whole('x', 'a', '-');
    whole('q', 'a', '-');
    is(h.wayHome(2), 2);
    h.put(0, 9, 9, 0);
    fails(ELEMENT, () -> h.wayHome(2));
    is(h.wayAt(1), 't');
    is(h.calls(), 0);
  }

  static void promise41() {
    fails(INDEX, () -> h.wayAt(0));
    whole('p', 'a', '-');
    h.wayHome(2);
    is(h.wayAt(0), 'q');
    fails(INDEX, () -> h.wayAt(1));
    fails(INDEX, () -> h.wayAt(-1));
    h.home();
    is(h.wayAt(0), 'q');
    h.wayHome(2);
    fails(INDEX, () -> h.wayAt(0));
  }

  static void promise42() {
    whole('q', 'a', '-');
    is(h.sing(8), 0);
    is(h.sung(), 0);
    whole('b', 'a', '-');
    is(h.sing(128), 4);
    is(h.sung(), 0);
    is(h.sing(20), 0);
    whole('b', 'a', '-');
    fails(ARGUMENT, () -> h.sing(7));
    fails(ARGUMENT, () -> h.sing(129));
    is(h.sung(), 4);
  }

  static void promise43() {
    whole('b', 'a', '-');
    is(h.sung(), 0);
    h.sing(64);
    h.define('A', 2000, 'f', 'a', '-');
    h.timing('A', 2000, 11);
    for (int i = 0; i < 8; i++) {
      h.skill(i, 0);
    }
    h.dance('A', 'a', '-', 1, 3);
    is(h.sung(), 3);
    h.finish();
    is(h.sung(), 11);
    h.dance('A', 'a', '-', 2, 3);
    is(h.sung(), 18);
    h.back();
    is(h.sung(), 18);
    refused('w', -1, 'q', 'c', '-');
    is(h.sung(), 18);
    h.dance('c', 'a', '-', 1, 3);
    is(h.sung(), 20);
    h.sing(8);
    h.finish();
    is(h.sung(), 4);
  }

  static void promise44() {
    fails(STATE, () -> h.progress());
    h.put(0, 0, 0, 0);
    fails(UNSUPPORTED, () -> h.progress());
    h.home();
    h.sing(10);
    for (int i = 0; i < 3; i++) {
      whole('b', 'a', '-');
    }
    fails(UNSUPPORTED, () -> h.progress());
    whole('b', 'a', '-');
    is(h.calls(), 4);
    is(h.progress(), -6);
    is(h.calls(), 0);
    is(h.sung(), 0);
    is(h.gone(), 1);
    is(all(), "-1 -3 0, 3 1 3, 3 -1 3, -1 3 2, 1 3 2, -3 -1 1, -3 1 1, 1 -3 0");
    is(h.progress(), 10);
    is(at(1) + ", " + at(7), "-1 3 2, 3 1 3");
    is(h.progress(), 10);
    is(h.progress(), 10);
    is(h.isHome(), true);
    is(at(1), "1 -3 0");
    // Heads and sides are told by their numbers all the same.
    h.progress();
    is(h.isAmong(1, 'h'), true);
    h.turnAll(1);
    fails(UNSUPPORTED, () -> h.progress());
  }

  static void promise45() {
    is(h.gone(), 0);
    fails(STATE, () -> h.progress());
    is(h.gone(), 0);
    h.sing(8);
    for (int i = 1; i <= 5; i++) {
      h.progress();
      is(h.gone(), i % 4);
    }
    h.home();
    is(h.gone(), 1);
  }

  static void promise46() {
    fails(ARGUMENT, () -> h.hall(3));
    fails(ARGUMENT, () -> h.hall(17));
    is(h.hall(16), 0);
    h.tip();
    h.tip();
    fails(ARGUMENT, () -> h.hall(17));
    is(h.setOf(1, 15), 3);
    is(h.hall(4), 2);
    fails(INDEX, () -> h.setOf(0, 0));
    is(h.met(0, 1), 0);
    is(h.hall(5), 0);
  }

  static void promise47() {
    fails(STATE, () -> h.tip());
    h.hall(7);
    is(h.tip(), 3);
    is(h.setOf(0, 0) + h.setOf(0, 3), 0);
    is(h.setOf(0, 4), -1);
    // The three who sat out come first, and then the lowest one who has met them as seldom.
    is(h.tip(), 3);
    is(h.setOf(1, 4) + h.setOf(1, 5) + h.setOf(1, 6) + h.setOf(1, 0), 0);
    is(h.setOf(1, 1), -1);
    // 1, with one tip; 4, whom it has not met; 5 and 6 have met 4, as 2 and 3 have met 1, but are later; 2 goes in.
    is(h.tip(), 3);
    is(h.setOf(2, 1), 0);
    is(h.setOf(2, 4), 0);
    is(h.setOf(2, 2), 0);
    is(h.setOf(2, 5), 0);
    for (int i = 3; i < 30; i++) {
      is(h.tip(), 3);
    }
    fails(STATE, () -> h.tip());
    is(h.hall(8), 30);
    is(h.tip(), 0);
    is(h.setOf(0, 3), 0);
    is(h.setOf(0, 4), 1);
    // In the second tip 0 dances with 4, whom it has not met, then each has met one of both.
    h.tip();
    is(h.setOf(1, 4), 0);
    is(h.setOf(1, 1), 0);
    is(h.setOf(1, 5), 0);
    is(h.setOf(1, 2), 1);
  }

  static void promise48() {
    fails(INDEX, () -> h.setOf(0, 0));
    h.hall(9);
    fails(INDEX, () -> h.setOf(0, 0));
    h.tip();
    is(h.setOf(0, 3), 0);
    is(h.setOf(0, 7), 1);
    is(h.setOf(0, 8), -1);
    fails(INDEX, () -> h.setOf(0, 9));
    fails(INDEX, () -> h.setOf(0, -1));
    fails(INDEX, () -> h.setOf(1, 0));
    fails(INDEX, () -> h.setOf(-1, 0));
    h.tip();
    is(h.setOf(1, 8), 0);
  }

  static void promise49() {
    fails(INDEX, () -> h.met(0, 1));
    h.hall(5);
    is(h.met(0, 1), 0);
    h.tip();
    is(h.met(0, 1), 1);
    is(h.met(3, 2), 1);
    is(h.met(0, 4), 0);
    h.tip();
    is(h.met(4, 0), 1);
    is(h.met(0, 1) + h.met(0, 2) + h.met(1, 0), 6);
    fails(INDEX, () -> h.met(5, 5));
    fails(INDEX, () -> h.met(0, 5));
    fails(INDEX, () -> h.met(-1, 0));
    fails(INDEX, () -> h.met(0, -1));
    fails(ARGUMENT, () -> h.met(4, 4));
  }

  static void promise50() {
    is(h.beats(), 0L);
    whole('u', 'h', '-');
    is(h.beats(), 4L);
    h.dance('f', 'h', '-', 2, 3);
    is(h.beats(), 8L);
    h.finish();
    is(h.beats(), 10L);
    h.back();
    is(h.beats(), 10L);
    refused('p', 0, 'x', 'a', 'X');
    is(h.beats(), 10L);
    h.home();
    h.define('A', 2000, 'q', 'a', '-');
    h.define('A', 2000, 'u', 'h', '-');
    h.timing('A', 2000, 10);
    h.dance('A', 'a', '-', 2, 3);
    is(h.beats(), 16L);
    h.finish();
    is(h.beats(), 20L);
  }

  static void promise51() {
    fails(ARITHMETIC, () -> h.doneShare());
    fails(ARGUMENT, () -> h.dance('q', 'a', '-', 0, 0));
    fails(ELEMENT, () -> h.dance('A', 'a', '-', 1, 1));
    fails(STATE, () -> h.finish());
    h.fits('q', 'a', '-');
    fails(ARITHMETIC, () -> h.doneShare());
    whole('q', 'a', '-');
    is(h.doneShare(), 1.0f);
    refused('w', -1, 'q', 'c', '-');
    is(h.doneShare(), 0.5f);
    h.dance('b', 'a', '-', 1, 2);
    is(h.doneShare(), 2.0f / 3.0f);
    h.finish();
    is(h.doneShare(), 0.75f);
    h.back();
    h.home();
    is(h.doneShare(), 0.75f);
    h = new Callerhall();
    refused('w', -1, 'q', 'c', '-');
    is(h.doneShare(), 0.0f);
  }

  static void promise52() {
    is(h.meanAway(), 0.0);
    h.put(0, 2, 4, 0);
    is(h.meanAway(), 1.25);
    h.put(0, -1, -3, 2);
    is(h.meanAway(), 0.0);
    h.turnAll(2);
    is(h.meanAway(), 8.0);
    h.home();
    h.sing(8);
    h.progress();
    is(h.meanAway(), 0.0);
    h.change(1, 3);
    is(h.meanAway(), 1.5);
  }

  static void promise53() {
    is(h.isConsistent(), true);
    h.hall(6);
    for (int i = 0; i < 30; i++) {
      h.tip();
      is(h.isConsistent(), true);
    }
    for (int[] places : new int[][] {LINES, WAVES, COLUMNS}) {
      lay(places);
      is(h.isConsistent(), true);
      h.dance('b', 'a', '-', 1, 2);
      is(h.isConsistent(), true);
      is(h.left(), 1);
      is(h.calls(), 1);
      is(h.why(), '-');
    }
  }
}
