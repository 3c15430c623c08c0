import java.util.ArrayDeque;
import java.util.ArrayList;
import java.util.Arrays;
import java.util.Comparator;
import java.util.HashMap;
import java.util.LinkedHashMap;
import java.util.List;
import java.util.Map;
import java.util.NoSuchElementException;
import java.util.TreeMap;

/** A second program of the document, made of small objects and of functions that call themselves; slow, but plain. */
final class Model {
  /** A dancer, a phantom, or a unit of two bodies. */
  private static final class Body {
    int x, y, f, number, skill;
    Body first, second;
    int wasX, wasY;
    // What happened to it, and in which part of the call.
    final List<int[]> turns = new ArrayList<>();
    final List<int[]> hands = new ArrayList<>();

    Body(int number, int x, int y, int f, int skill) {
      this.number = number;
      this.x = x;
      this.y = y;
      this.f = f;
      this.skill = skill;
    }

    boolean is(char who) {
      if (first != null) {
        return first.is(who) && second.is(who);
      }
      switch (who) {
        case 'h': return number < 8 && number / 2 % 2 == 0;
        case 's': return number < 8 && number / 2 % 2 == 1;
        case 'l': return number % 2 == 0;
        case 'r': return number % 2 == 1;
        default: return true;
      }
    }

    int sum() {
      return Math.abs(x) + Math.abs(y);
    }

    void go(int direction, int steps) {
      int[] d = DIRECTIONS[(direction % 4 + 4) % 4];
      x += d[0] * steps;
      y += d[1] * steps;
    }

    void turn(int quarters, int time) {
      f = ((f + quarters) % 4 + 4) % 4;
      turns.add(new int[] {time, quarters});
    }

    boolean isAt(int atX, int atY) {
      return x == atX && y == atY;
    }
  }

  private static final int[][] DIRECTIONS = {{0, 1}, {1, 0}, {0, -1}, {-1, 0}};

  /** Why a call cannot be. */
  private static final class Refusal extends RuntimeException {
    final char why;
    final int whom;

    Refusal(char why, int whom) {
      super("" + why, null, false, false);
      this.why = why;
      this.whom = whom;
    }
  }

  private static final class Act {
    final char act, who, concept;

    Act(char act, char who, char concept) {
      this.act = act;
      this.who = who;
      this.concept = concept;
    }
  }

  private static final class Version {
    final List<Act> acts = new ArrayList<>();
    Integer beats;
  }

  /** What is put on an act: each concept but those that make units holds within the others. */
  private static final class Rule {
    boolean byX, byY, wide, haunted;

    Rule with(char concept) {
      Rule next = new Rule();
      next.byX = byX || concept == 'X';
      next.byY = byY || concept == 'Y';
      next.wide = wide || concept == 'O';
      next.haunted = haunted || concept == 'P';
      return next;
    }
  }

  private static final class Pending {
    char letter, concept;
    List<Act> acts;
    int done, beats;
    List<int[]> ahead;
  }

  private static final Map<Character, int[]> ACTS = new LinkedHashMap<>();

  static {
    String letters = "uqpbgfhctwxro";
    int[][] partsAndLevels = {{2, 1}, {1, 1}, {1, 1}, {2, 1}, {2, 1}, {3, 2}, {1, 2}, {3, 3}, {2, 1}, {2, 2}, {1, 2}, {1, 3}, {1, 2}};
    for (int i = 0; i < letters.length(); i++) {
      ACTS.put(letters.charAt(i), partsAndLevels[i]);
    }
  }

  private List<int[]> places = new ArrayList<>();
  private final int[] skills = {3, 3, 3, 3, 3, 3, 3, 3};
  private final List<int[]> phantoms = new ArrayList<>();
  private final Map<Character, TreeMap<Integer, Version>> book = new HashMap<>();
  private int level = 3;
  private int year = 2000;
  private char why = '-';
  private int whom = -1;
  private Pending pending;
  private final ArrayDeque<List<int[]>> past = new ArrayDeque<>();
  private final ArrayDeque<Character> pastLetters = new ArrayDeque<>();
  private int[] turned = new int[8];
  private int[] flowing = new int[8];
  private int[] hands = new int[8];
  private int broken;
  private int clashes;
  private String way = "";
  private Integer figure;
  private int sung;
  private int gone;
  private long beats;
  private int tried;
  private int danced;
  private int couples;
  private final List<List<List<Integer>>> tips = new ArrayList<>();

  Model() {
    goHome();
  }

  // ---- small helpers

  private static int[] rotate(int[] place, int times) {
    int[] turnedPlace = place.clone();
    for (int i = 0; i < times; i++) {
      turnedPlace = new int[] {-turnedPlace[1], turnedPlace[0], (turnedPlace[2] + 3) % 4};
    }
    return turnedPlace;
  }

  private int[] homeOf(int dancer) {
    int couple = dancer % 2 == 0 ? dancer / 2 : (dancer / 2 + gone) % 4;
    return rotate(new int[] {dancer % 2 == 0 ? -1 : 1, -3, 0}, couple);
  }

  private void goHome() {
    places = new ArrayList<>();
    for (int i = 0; i < 8; i++) {
      places.add(homeOf(i));
    }
    turned = new int[8];
    flowing = new int[8];
    hands = new int[8];
    broken = 0;
    clashes = 0;
    dancersTold();
  }

  private void dancersTold() {
    past.clear();
    pastLetters.clear();
    pending = null;
  }

  private static void index(boolean isThere) {
    if (!isThere) {
      throw new IndexOutOfBoundsException();
    }
  }

  private static void argument(boolean isGood) {
    if (!isGood) {
      throw new IllegalArgumentException();
    }
  }

  private static void element(boolean isThere) {
    if (!isThere) {
      throw new NoSuchElementException();
    }
  }

  private static boolean isIn(char sign, String signs) {
    return signs.indexOf(sign) >= 0;
  }

  private static boolean isWho(char who) {
    return isIn(who, "ahslrce");
  }

  private static boolean isConcept(char concept) {
    return isIn(concept, "-XYOPTC");
  }

  private static boolean isLetter(char call) {
    return call >= 'A' && call <= 'H';
  }

  private List<int[]> copyPlaces() {
    List<int[]> copy = new ArrayList<>();
    for (int[] place : places) {
      copy.add(place.clone());
    }
    return copy;
  }

  // ---- dancers

  int home() {
    int away = 0;
    for (int i = 0; i < 8; i++) {
      away += Arrays.equals(places.get(i), homeOf(i)) ? 0 : 1;
    }
    goHome();
    return away;
  }

  int x(int dancer) {
    index(dancer >= 0 && dancer < 8);
    return places.get(dancer)[0];
  }

  int y(int dancer) {
    index(dancer >= 0 && dancer < 8);
    return places.get(dancer)[1];
  }

  int facing(int dancer) {
    index(dancer >= 0 && dancer < 8);
    return places.get(dancer)[2];
  }

  int put(int dancer, int x, int y, int f) {
    index(dancer >= 0 && dancer < 8);
    argument(x >= -9 && x <= 9 && y >= -9 && y <= 9 && f >= 0 && f <= 3);
    for (int i = 0; i < 8; i++) {
      if (i != dancer && places.get(i)[0] == x && places.get(i)[1] == y) {
        throw new UnsupportedOperationException();
      }
    }
    dancersTold();
    return places.set(dancer, new int[] {x, y, f})[2];
  }

  int change(int one, int other) {
    index(one >= 0 && one < 8 && other >= 0 && other < 8);
    argument(one != other);
    dancersTold();
    int[] a = places.get(one);
    int[] b = places.set(other, a);
    places.set(one, b);
    return Math.abs(a[0] - b[0]) + Math.abs(a[1] - b[1]);
  }

  int turnAll(int quarters) {
    argument(quarters >= 1 && quarters <= 3);
    dancersTold();
    places.replaceAll(place -> rotate(place, quarters));
    return places.get(0)[2];
  }

  int find(int x, int y) {
    for (int i = 0; i < 8; i++) {
      if (places.get(i)[0] == x && places.get(i)[1] == y) {
        return i;
      }
    }
    throw new NoSuchElementException();
  }

  int skill(int dancer, int skill) {
    index(dancer >= 0 && dancer < 8);
    argument(skill >= 0 && skill <= 3);
    int before = skills[dancer];
    skills[dancer] = skill;
    pending = null;
    return before;
  }

  int phantom(int x, int y, int f) {
    argument(x >= -9 && x <= 9 && y >= -9 && y <= 9 && f >= 0 && f <= 3);
    for (int[] other : phantoms) {
      if (other[0] == x && other[1] == y) {
        throw new UnsupportedOperationException();
      }
    }
    if (phantoms.size() == 8) {
      throw new IllegalStateException();
    }
    phantoms.add(new int[] {x, y, f});
    pending = null;
    return phantoms.size();
  }

  int clearPhantoms() {
    int before = phantoms.size();
    phantoms.clear();
    pending = null;
    return before;
  }

  // ---- definitions

  int level(int newLevel) {
    argument(newLevel >= 1 && newLevel <= 3);
    int before = level;
    level = newLevel;
    return before;
  }

  int year(int newYear) {
    argument(newYear >= 1900 && newYear <= 2100);
    int before = year;
    year = newYear;
    pending = null;
    return before;
  }

  int define(char call, int ofYear, char act, char who, char concept) {
    argument(isLetter(call) && ACTS.containsKey(act) && isWho(who) && isConcept(concept) && ofYear >= 1900 && ofYear <= 2100);
    TreeMap<Integer, Version> versions = book.computeIfAbsent(call, c -> new TreeMap<>());
    Version version = versions.get(ofYear);
    if (version == null ? versions.size() == 3 : version.acts.size() == 8) {
      throw new IllegalStateException();
    }
    versions.computeIfAbsent(ofYear, y -> new Version()).acts.add(new Act(act, who, concept));
    pending = null;
    return versions.get(ofYear).acts.size();
  }

  int forget(char call) {
    argument(isLetter(call));
    pending = null;
    TreeMap<Integer, Version> versions = book.remove(call);
    return versions == null ? 0 : versions.size();
  }

  int timing(char call, int ofYear, int newBeats) {
    argument(isLetter(call) && newBeats >= 1 && newBeats <= 99);
    Version version = book.getOrDefault(call, new TreeMap<>()).get(ofYear);
    element(version != null);
    int before = version.beats != null ? version.beats : 2 * partsOf(version.acts);
    version.beats = newBeats;
    pending = null;
    return before;
  }

  private static int partsOf(List<Act> acts) {
    int sum = 0;
    for (Act act : acts) {
      sum += ACTS.get(act.act)[0];
    }
    return sum;
  }

  private Version holding(char call) {
    argument(ACTS.containsKey(call) || isLetter(call));
    if (ACTS.containsKey(call)) {
      Version version = new Version();
      version.acts.add(new Act(call, 'a', '-'));
      return version;
    }
    Map.Entry<Integer, Version> entry = book.getOrDefault(call, new TreeMap<>()).floorEntry(year);
    element(entry != null);
    return entry.getValue();
  }

  int parts(char call) {
    return partsOf(holding(call).acts);
  }

  int beatsOf(char call) {
    Version version = holding(call);
    return version.beats != null ? version.beats : 2 * partsOf(version.acts);
  }

  int levelOf(char call) {
    return highest(holding(call).acts);
  }

  private static int highest(List<Act> acts) {
    int most = 0;
    for (Act act : acts) {
      most = Math.max(most, ACTS.get(act.act)[1]);
    }
    return most;
  }

  // ---- calling

  int dance(char call, char who, char concept, int up, int down) {
    argument(ACTS.containsKey(call) || isLetter(call));
    argument(isWho(who) && isConcept(concept));
    argument(!isLetter(call) || who == 'a');
    argument(up >= 1 && up <= 12 && down >= up && down <= 12);
    Pending wanted = new Pending();
    wanted.letter = call;
    wanted.concept = concept;
    wanted.acts = isLetter(call) ? new ArrayList<>(holding(call).acts) : List.of(new Act(call, who, '-'));
    wanted.beats = beatsOf(call);
    wanted.ahead = copyPlaces();
    int all = partsOf(wanted.acts);
    tried++;
    try {
      refuseIf(highest(wanted.acts) > level, 'n');
      refuseIf(all * up % down != 0, 'f');
      wanted.done = all * up / down;
      settle(perform(wanted.ahead, skills, wanted.acts, concept, wanted.done), 0, wanted.beats * wanted.done / all);
    } catch (Refusal refusal) {
      refused(refusal);
    }
    past.push(wanted.ahead);
    pastLetters.push(call);
    if (past.size() > 20) {
      past.removeLast();
      pastLetters.removeLast();
    }
    pending = wanted.done < all ? wanted : null;
    return wanted.done;
  }

  int finish() {
    if (pending == null) {
      throw new IllegalStateException();
    }
    int more = left();
    tried++;
    try {
      refuseIf(highest(pending.acts) > level, 'n');
      List<Body> floor = perform(pending.ahead, skills, pending.acts, pending.concept, partsOf(pending.acts));
      settle(floor, pending.done, pending.beats - pending.beats * pending.done / partsOf(pending.acts));
    } catch (Refusal refusal) {
      refused(refusal);
    }
    pending = null;
    return more;
  }

  private static void refuseIf(boolean isSo, char why) {
    if (isSo) {
      throw new Refusal(why, -1);
    }
  }

  private void refused(Refusal refusal) {
    why = refusal.why;
    whom = refusal.whom;
    throw new UnsupportedOperationException();
  }

  private void settle(List<Body> floor, int from, int moreBeats) {
    why = '-';
    whom = -1;
    danced++;
    beats += moreBeats;
    sung += figure == null ? 0 : moreBeats;
    places = new ArrayList<>();
    for (int i = 0; i < 8; i++) {
      Body body = floor.get(i);
      places.add(new int[] {body.x, body.y, body.f});
      int sum = 0;
      for (int[] turn : body.turns) {
        sum += turn[0] >= from ? turn[1] : 0;
      }
      turned[i] = sum;
      if (sum != 0) {
        broken += Integer.signum(sum) == -Integer.signum(flowing[i]) ? 1 : 0;
        flowing[i] = sum;
      }
      List<Integer> taken = new ArrayList<>();
      for (int[] hand : body.hands) {
        if (hand[0] >= from) {
          taken.add(hand[1]);
        }
      }
      if (!taken.isEmpty()) {
        clashes += taken.get(0) == hands[i] ? 1 : 0;
        hands[i] = taken.get(taken.size() - 1);
      }
    }
  }

  int left() {
    return pending == null ? 0 : partsOf(pending.acts) - pending.done;
  }

  char why() {
    return why;
  }

  int whom() {
    element(whom >= 0);
    return whom;
  }

  boolean fits(char act, char who, char concept) {
    argument(ACTS.containsKey(act) && isWho(who) && isConcept(concept));
    return tryAct(places, skills, act, who, concept, ACTS.get(act)[0]) != null;
  }

  /** Whether a call would be danced now, as a whole; for runs that shall not only be refused. */
  boolean wouldDance(char call, char who, char concept) {
    try {
      List<Act> acts = isLetter(call) ? holding(call).acts : List.of(new Act(call, who, '-'));
      perform(places, skills, acts, concept, partsOf(acts));
      return true;
    } catch (Refusal | NoSuchElementException refusal) {
      return false;
    }
  }

  int partsOrOne(char call) {
    try {
      return parts(call);
    } catch (NoSuchElementException | IllegalArgumentException none) {
      return 1;
    }
  }

  private List<Body> tryAct(List<int[]> from, int[] with, char act, char who, char concept, int most) {
    try {
      return perform(from, with, List.of(new Act(act, who, '-')), concept, most);
    } catch (Refusal refusal) {
      return null;
    }
  }

  int back() {
    element(!past.isEmpty());
    places = past.pop();
    pastLetters.pop();
    pending = null;
    return past.size();
  }

  int calls() {
    return past.size();
  }

  char callAt(int at) {
    index(at >= 0 && at < past.size());
    return new ArrayList<>(pastLetters).get(at);
  }

  // ---- how a call is danced

  private List<Body> dancersAt(List<int[]> from, int[] with) {
    List<Body> floor = new ArrayList<>();
    for (int i = 0; i < 8; i++) {
      floor.add(new Body(i, from.get(i)[0], from.get(i)[1], from.get(i)[2], with[i]));
    }
    return floor;
  }

  private List<Body> perform(List<int[]> from, int[] with, List<Act> acts, char concept, int most) {
    List<Body> floor = dancersAt(from, with);
    within(floor, concept, new Rule(), (inner, rule) -> {
      int time = 0;
      for (Act act : acts) {
        int start = time;
        int end = Math.min(most, start + ACTS.get(act.act)[0]);
        if (start < end) {
          within(inner, act.concept, rule, (own, ownRule) -> danceAct(own, act, ownRule, start, end));
        }
        time += ACTS.get(act.act)[0];
      }
    });
    return floor;
  }

  private interface Doing {
    void on(List<Body> floor, Rule rule);
  }

  /** Puts a concept on what is done, and takes it off again. */
  private void within(List<Body> floor, char concept, Rule rule, Doing doing) {
    Rule own = rule.with(concept);
    if (concept == 'P' && !rule.haunted) {
      List<Body> wider = new ArrayList<>(floor);
      for (int i = 0; i < phantoms.size(); i++) {
        int[] place = phantoms.get(i);
        wider.add(new Body(8 + i, place[0], place[1], place[2], 3));
      }
      doing.on(wider, own);
    } else if (concept == 'T' || concept == 'C') {
      List<Body> units = units(floor, concept == 'T');
      for (Body body : floor) {
        body.wasX = body.x;
        body.wasY = body.y;
      }
      doing.on(units, own);
      open(units, concept == 'T');
      collide(floor);
    } else {
      doing.on(floor, own);
    }
  }

  private static boolean liesAlongX(Body body, boolean isTandem) {
    return isTandem ? body.f == 1 || body.f == 3 : body.f == 0 || body.f == 2;
  }

  private List<Body> units(List<Body> floor, boolean isTandem) {
    List<Body[]> pairs = new ArrayList<>();
    Rule plain = new Rule();
    for (Body[] pair : isTandem ? columns(floor) : rows(floor, plain)) {
      if (pair[0].f == pair[1].f) {
        pairs.add(pair);
      }
    }
    refuseIf(pairs.size() * 2 != floor.size(), 'p');
    boolean isAlongX = liesAlongX(pairs.get(0)[0], isTandem);
    List<Body> units = new ArrayList<>();
    for (Body[] pair : pairs) {
      refuseIf(liesAlongX(pair[0], isTandem) != isAlongX, 'p');
      // The second of a pair has the greater x or y: it is the front facing up or right, the left facing down or right.
      boolean isSecondFirst = isTandem ? pair[0].f < 2 : pair[0].f == 1 || pair[0].f == 2;
      Body first = pair[isSecondFirst ? 1 : 0];
      Body second = pair[isSecondFirst ? 0 : 1];
      double x = (first.x + second.x) / 2.0 / (isAlongX ? 2 : 1);
      double y = (first.y + second.y) / 2.0 / (isAlongX ? 1 : 2);
      refuseIf(x != Math.rint(x) || y != Math.rint(y), 'p');
      Body unit = new Body(first.number, (int) x, (int) y, first.f, Math.min(first.skill, second.skill));
      unit.first = first;
      unit.second = second;
      units.add(unit);
    }
    return units;
  }

  private void open(List<Body> units, boolean isTandem) {
    boolean isAlongX = liesAlongX(units.get(0), isTandem);
    for (Body unit : units) {
      refuseIf(liesAlongX(unit, isTandem) != isAlongX, 'p');
    }
    for (Body unit : units) {
      for (Body member : new Body[] {unit.first, unit.second}) {
        member.x = isAlongX ? unit.x * 2 : unit.x;
        member.y = isAlongX ? unit.y : unit.y * 2;
        member.f = unit.f;
        int direction = isTandem ? unit.f : unit.f + 3;
        member.go(member == unit.first ? direction : direction + 2, 1);
        member.turns.addAll(unit.turns);
        member.hands.addAll(unit.hands);
      }
    }
  }

  private List<Body> among(List<Body> floor, char who) {
    List<Body> some = new ArrayList<>();
    if (who == 'c' || who == 'e') {
      List<Body> sorted = new ArrayList<>(floor);
      sorted.sort(Comparator.comparingInt(Body::sum));
      int half = sorted.size() / 2;
      if (half > 0 && sorted.get(half - 1).sum() == sorted.get(half).sum()) {
        return null;
      }
      return who == 'c' ? sorted.subList(0, half) : sorted.subList(half, sorted.size());
    }
    for (Body body : floor) {
      if (body.is(who)) {
        some.add(body);
      }
    }
    return some.isEmpty() ? null : some;
  }

  private static boolean together(Body a, Body b, Rule rule) {
    return (!rule.byX || a.x * b.x > 0) && (!rule.byY || a.y * b.y > 0);
  }

  private static List<Body> inOrder(List<Body> some) {
    List<Body> sorted = new ArrayList<>(some);
    sorted.sort(Comparator.<Body>comparingInt(b -> b.x).thenComparingInt(b -> b.y).thenComparingInt(b -> b.number));
    return sorted;
  }

  private interface Test {
    boolean holds(Body body);
  }

  private static Body first(List<Body> some, Test test) {
    for (Body body : some) {
      if (test.holds(body)) {
        return body;
      }
    }
    return null;
  }

  /** The pairs of all rows, the one of the lesser x or y first. */
  private static List<Body[]> rows(List<Body> some, Rule rule) {
    int s = rule.wide ? 4 : 2;
    List<Body> free = inOrder(some);
    List<Body[]> pairs = new ArrayList<>();
    while (!free.isEmpty()) {
      Body a = free.remove(0);
      boolean isUp = a.f % 2 == 0;
      Body b = first(free, o -> o.f % 2 == a.f % 2 && o.isAt(a.x + (isUp ? s : 0), a.y + (isUp ? 0 : s)) && together(a, o, rule));
      if (b != null) {
        free.remove(b);
        pairs.add(new Body[] {a, b});
      }
    }
    return pairs;
  }

  private static List<Body[]> columns(List<Body> some) {
    List<Body> free = inOrder(some);
    List<Body[]> pairs = new ArrayList<>();
    while (!free.isEmpty()) {
      Body a = free.remove(0);
      boolean isUp = a.f % 2 == 0;
      Body b = first(free, o -> o.f == a.f && o.isAt(a.x + (isUp ? 0 : 2), a.y + (isUp ? 2 : 0)));
      if (b != null) {
        free.remove(b);
        pairs.add(new Body[] {a, b});
      }
    }
    return pairs;
  }

  private static List<Body[]> boxes(List<Body> some, Rule rule) {
    int s = rule.wide ? 4 : 2;
    List<Body> free = inOrder(some);
    List<Body[]> boxes = new ArrayList<>();
    for (Body least : inOrder(some)) {
      Body[] box = new Body[4];
      for (int i = 0; i < 4; i++) {
        int dx = i / 2 * s;
        int dy = i % 2 * s;
        box[i] = i == 0 ? least : first(free, o -> o.isAt(least.x + dx, least.y + dy));
      }
      boolean isBox = free.contains(least);
      for (Body corner : box) {
        isBox = isBox && corner != null && together(least, corner, rule);
      }
      if (isBox) {
        boxes.add(box);
        free.removeAll(Arrays.asList(box));
      }
    }
    return boxes;
  }

  /** 'c' a couple, 'r' a right wave, 'l' a left one. */
  private static char kind(Body[] pair) {
    if (pair[0].f == pair[1].f) {
      return 'c';
    }
    // The first one has the lesser x, or y: the other one is on its right if it faces up, or left.
    return pair[0].f == 0 || pair[0].f == 3 ? 'r' : 'l';
  }

  private void danceAct(List<Body> floor, Act act, Rule rule, int start, int end) {
    List<Body> told = among(floor, act.who);
    refuseIf(told == null, 'w');
    List<Body> dancing = new ArrayList<>();
    for (Body body : told) {
      if (body.skill >= ACTS.get(act.act)[1]) {
        dancing.add(body);
      }
    }
    Map<Body, Body> faces = faces(dancing, rule);
    List<Body[]> pairs = rows(act.act == 'r' ? floor : dancing, rule);
    List<Body[]> boxes = boxes(dancing, rule);
    misfit(dancing, fitting(act.act, dancing, faces, pairs, boxes));
    for (int time = start; time < end; time++) {
      for (Body body : floor) {
        body.wasX = body.x;
        body.wasY = body.y;
      }
      part(act.act, time - start, time, dancing, pairs, boxes, rule);
      collide(floor);
    }
  }

  private static Map<Body, Body> faces(List<Body> dancing, Rule rule) {
    int s = rule.wide ? 4 : 2;
    Map<Body, Body> faces = new HashMap<>();
    for (Body a : dancing) {
      int[] d = DIRECTIONS[a.f];
      Body b = first(dancing, o -> o.isAt(a.x + d[0] * s, a.y + d[1] * s) && (o.f + 2) % 4 == a.f && together(a, o, rule));
      if (b != null) {
        faces.put(a, b);
      }
    }
    return faces;
  }

  private static List<Body> fitting(char act, List<Body> dancing, Map<Body, Body> faces, List<Body[]> pairs, List<Body[]> boxes) {
    List<Body> good = new ArrayList<>();
    if (isIn(act, "uqpb")) {
      good.addAll(dancing);
    } else if (isIn(act, "gf")) {
      good.addAll(faces.keySet());
    } else if (act == 'o') {
      for (Body[] box : boxes) {
        good.addAll(Arrays.asList(box));
      }
    } else {
      for (Body[] pair : pairs) {
        boolean isGood = isIn(act, "tx") || isIn(act, "hc") && kind(pair) != 'c' || act == 'w' && kind(pair) == 'c'
            || act == 'r' && dancing.contains(pair[0]) != dancing.contains(pair[1]);
        if (isGood) {
          good.addAll(Arrays.asList(pair));
        }
      }
    }
    return good;
  }

  private static void misfit(List<Body> dancing, List<Body> good) {
    int lowest = Integer.MAX_VALUE;
    for (Body body : dancing) {
      if (!good.contains(body)) {
        lowest = Math.min(lowest, body.number);
      }
    }
    if (lowest < Integer.MAX_VALUE) {
      throw new Refusal('p', lowest);
    }
  }

  private static void part(char act, int part, int time, List<Body> dancing, List<Body[]> pairs, List<Body[]> boxes, Rule rule) {
    int s = rule.wide ? 4 : 2;
    if (isIn(act, "uqpbgf")) {
      for (Body body : dancing) {
        switch (act) {
          case 'u': body.go(body.f, 1); break;
          case 'q':
          case 'b': body.turn(1, time); break;
          case 'p': body.turn(-1, time); break;
          default:
            if (part == 2) {
              body.turn(body.number % 2 == 0 ? 1 : -1, time);
            } else {
              int f = body.f;
              body.go(f, s / 2);
              body.go(part == 0 ? f + 3 : f + 1, 1);
            }
        }
      }
    } else if (act == 'o') {
      for (Body[] box : boxes) {
        for (Body body : box) {
          circulate(body, box[0].wasX, box[0].wasY, s, time);
        }
      }
    } else {
      for (Body[] pair : pairs) {
        if (act == 'r' && !dancing.contains(pair[0]) && !dancing.contains(pair[1])) {
          continue;
        }
        partOfPair(act, part, time, dancing, pair);
      }
    }
  }

  private static void circulate(Body body, int leastX, int leastY, int s, int time) {
    int f = body.f;
    for (int side : new int[] {0, 1, 3}) {
      int[] d = DIRECTIONS[(f + side) % 4];
      int x = body.x + d[0] * s;
      int y = body.y + d[1] * s;
      if ((x == leastX || x == leastX + s) && (y == leastY || y == leastY + s)) {
        body.x = x;
        body.y = y;
        if (side != 0) {
          body.turn(2, time);
        }
        return;
      }
    }
  }

  private static void partOfPair(char act, int part, int time, List<Body> dancing, Body[] pair) {
    Body a = pair[0];
    Body b = pair[1];
    if (act == 'x' || act == 'r') {
      int x = a.x;
      int y = a.y;
      a.x = b.x;
      a.y = b.y;
      b.x = x;
      b.y = y;
      if (act == 'r') {
        (dancing.contains(a) ? a : b).turn(2, time);
      }
      return;
    }
    // What a pair is was found ahead of the first part, and turning keeps it.
    boolean isCouple = a.f == b.f;
    boolean isLeft = false;
    if (part == 0) {
      isLeft = kind(pair) == 'l';
      if (!isCouple) {
        a.hands.add(new int[] {time, isLeft ? -1 : 1});
        b.hands.add(new int[] {time, isLeft ? -1 : 1});
      }
    } else if (!isCouple) {
      isLeft = a.hands.get(a.hands.size() - 1)[1] < 0;
    }
    int quarters = act == 'w' || isLeft ? 3 : 1;
    int midX = (a.x + b.x) / 2;
    int midY = (a.y + b.y) / 2;
    for (Body body : pair) {
      for (int i = 0; i < quarters; i++) {
        int dx = body.x - midX;
        int dy = body.y - midY;
        body.x = midX + dy;
        body.y = midY - dx;
      }
      body.turn(quarters == 3 ? -1 : 1, time);
    }
  }

  private static void collide(List<Body> floor) {
    List<Body> passing = new ArrayList<>();
    for (Body a : floor) {
      List<Body> there = at(floor, a);
      if (there.size() == 2) {
        Body b = there.get(0) == a ? there.get(1) : there.get(0);
        if (Math.abs(a.f - b.f) == 2 && !a.isAt(a.wasX, a.wasY) && !b.isAt(b.wasX, b.wasY)) {
          passing.add(a);
        }
      }
    }
    for (Body body : passing) {
      body.go(body.f + 3, 1);
    }
    int lowest = Integer.MAX_VALUE;
    for (Body a : floor) {
      if (at(floor, a).size() > 1) {
        lowest = Math.min(lowest, a.number);
      }
    }
    if (lowest < Integer.MAX_VALUE) {
      throw new Refusal('b', lowest);
    }
  }

  private static List<Body> at(List<Body> floor, Body a) {
    List<Body> there = new ArrayList<>();
    for (Body b : floor) {
      if (b.isAt(a.x, a.y)) {
        there.add(b);
      }
    }
    return there;
  }

  // ---- what is found

  boolean isAmong(int dancer, char who) {
    index(dancer >= 0 && dancer < 8);
    argument(isWho(who));
    List<Body> floor = dancersAt(places, skills);
    List<Body> some = among(floor, who);
    element(some != null);
    return some.contains(floor.get(dancer));
  }

  int partner(int dancer, boolean isFacing, int spacing) {
    index(dancer >= 0 && dancer < 8);
    argument(spacing == 2 || spacing == 4);
    List<Body> floor = dancersAt(places, skills);
    Rule rule = new Rule().with(spacing == 4 ? 'O' : '-');
    if (isFacing) {
      Body face = faces(floor, rule).get(floor.get(dancer));
      element(face != null);
      return face.number;
    }
    Body[] pair = pairOf(floor.get(dancer), rows(floor, rule));
    return pair[0].number == dancer ? pair[1].number : pair[0].number;
  }

  private static Body[] pairOf(Body body, List<Body[]> pairs) {
    for (Body[] pair : pairs) {
      if (pair[0] == body || pair[1] == body) {
        return pair;
      }
    }
    throw new NoSuchElementException();
  }

  char pair(int dancer) {
    index(dancer >= 0 && dancer < 8);
    List<Body> floor = dancersAt(places, skills);
    return kind(pairOf(floor.get(dancer), rows(floor, new Rule())));
  }

  private static List<int[]> shape(char formation) {
    List<int[]> shape = new ArrayList<>();
    for (int i = 0; i < 8; i++) {
      int x = 2 * (i % 4) - 3;
      boolean isEven = i % 2 == 0;
      switch (formation) {
        case 's': shape.add(rotate(new int[] {isEven ? -1 : 1, -3, 0}, i / 2)); break;
        case 'l': shape.add(new int[] {x, i < 4 ? -1 : 1, i < 4 ? 0 : 2}); break;
        case 'k': shape.add(new int[] {x, i < 4 ? -1 : 1, i < 4 ? 2 : 0}); break;
        case 'w': shape.add(new int[] {x, i < 4 ? -1 : 1, x == -3 || x == 1 ? 0 : 2}); break;
        case 'v': shape.add(new int[] {x, i < 4 ? -1 : 1, x == -3 || x == 1 ? 2 : 0}); break;
        case 'e': shape.add(new int[] {i < 4 ? -1 : 1, x, x == -3 || x == 1 ? 0 : 2}); break;
        default: shape.add(new int[] {2 * i - 7, 0, isEven ? 0 : 2});
      }
    }
    return shape;
  }

  int repairs(char formation) {
    argument(isIn(formation, "slkwvet"));
    int best = 8;
    for (int turn = 0; turn < 4; turn++) {
      int out = 0;
      for (int[] place : places) {
        boolean isIn = false;
        for (int[] due : shape(formation)) {
          isIn = isIn || Arrays.equals(rotate(due, turn), place);
        }
        out += isIn ? 0 : 1;
      }
      best = Math.min(best, out);
    }
    return best;
  }

  char formation() {
    for (char formation : "slkwvet".toCharArray()) {
      if (repairs(formation) == 0) {
        return formation;
      }
    }
    return '-';
  }

  boolean isHome() {
    return areHome(places);
  }

  private boolean areHome(List<int[]> some) {
    for (int turn = 0; turn < 4; turn++) {
      boolean isHome = true;
      for (int i = 0; i < 8; i++) {
        isHome = isHome && Arrays.equals(rotate(homeOf(i), turn), some.get(i));
      }
      if (isHome) {
        return true;
      }
    }
    return false;
  }

  boolean isSymmetric() {
    for (int i = 0; i < 8; i++) {
      if (!Arrays.equals(rotate(places.get(i), 2), places.get((i + 4) % 8))) {
        return false;
      }
    }
    return true;
  }

  int turned(int dancer) {
    index(dancer >= 0 && dancer < 8);
    return turned[dancer];
  }

  int broken() {
    return broken;
  }

  int clashes() {
    return clashes;
  }

  int wayHome(int most) {
    argument(most >= 0 && most <= 2);
    for (int length = 0; length <= most; length++) {
      String found = wayFrom(places, length);
      if (found != null) {
        way = found;
        return length;
      }
    }
    throw new NoSuchElementException();
  }

  private String wayFrom(List<int[]> from, int length) {
    if (length == 0) {
      return areHome(from) ? "" : null;
    }
    for (char act : "uqpbgfhctwxo".toCharArray()) {
      List<Body> floor = tryAct(from, new int[] {3, 3, 3, 3, 3, 3, 3, 3}, act, 'a', '-', 3);
      if (floor != null) {
        List<int[]> next = new ArrayList<>();
        for (Body body : floor) {
          next.add(new int[] {body.x, body.y, body.f});
        }
        String rest = wayFrom(next, length - 1);
        if (rest != null) {
          return act + rest;
        }
      }
    }
    return null;
  }

  char wayAt(int at) {
    index(at >= 0 && at < way.length());
    return way.charAt(at);
  }

  // ---- singing and the hall

  int sing(int newBeats) {
    argument(newBeats >= 8 && newBeats <= 128);
    int before = sung;
    figure = newBeats;
    sung = 0;
    return before;
  }

  int sung() {
    return sung;
  }

  int progress() {
    for (int i = 0; i < 8; i++) {
      if (!Arrays.equals(places.get(i), homeOf(i))) {
        throw new UnsupportedOperationException();
      }
    }
    if (figure == null) {
      throw new IllegalStateException();
    }
    int more = figure - sung;
    gone = (gone + 1) % 4;
    goHome();
    sung = 0;
    return more;
  }

  int gone() {
    return gone;
  }

  int hall(int newCouples) {
    argument(newCouples >= 4 && newCouples <= 16);
    int before = tips.size();
    tips.clear();
    couples = newCouples;
    return before;
  }

  int tip() {
    if (couples == 0 || tips.size() == 30) {
      throw new IllegalStateException();
    }
    List<Integer> free = new ArrayList<>();
    for (int i = 0; i < couples; i++) {
      free.add(i);
    }
    List<List<Integer>> sets = new ArrayList<>();
    while (free.size() >= 4) {
      List<Integer> set = new ArrayList<>();
      while (set.size() < 4) {
        free.sort(Comparator.<Integer>comparingInt(c -> metIn(c, set)).thenComparingInt(this::tipsOf).thenComparingInt(c -> c));
        set.add(free.remove(0));
      }
      sets.add(set);
    }
    tips.add(sets);
    return free.size();
  }

  private int tipsOf(int couple) {
    int sum = 0;
    for (List<List<Integer>> sets : tips) {
      for (List<Integer> set : sets) {
        sum += set.contains(couple) ? 1 : 0;
      }
    }
    return sum;
  }

  private int metIn(int couple, List<Integer> some) {
    int sum = 0;
    for (int other : some) {
      sum += metOf(couple, other);
    }
    return sum;
  }

  private int metOf(int one, int other) {
    int sum = 0;
    for (List<List<Integer>> sets : tips) {
      for (List<Integer> set : sets) {
        sum += set.contains(one) && set.contains(other) ? 1 : 0;
      }
    }
    return sum;
  }

  int setOf(int tip, int couple) {
    index(tip >= 0 && tip < tips.size() && couple >= 0 && couple < couples);
    for (int i = 0; i < tips.get(tip).size(); i++) {
      if (tips.get(tip).get(i).contains(couple)) {
        return i;
      }
    }
    return -1;
  }

  int met(int one, int other) {
    index(one >= 0 && one < couples && other >= 0 && other < couples);
    argument(one != other);
    return metOf(one, other);
  }

  // ---- figures

  long beats() {
    return beats;
  }

  float doneShare() {
    if (tried == 0) {
      throw new ArithmeticException();
    }
    return (float) danced / (float) tried;
  }

  double meanAway() {
    double sum = 0;
    for (int i = 0; i < 8; i++) {
      sum += Math.abs(places.get(i)[0] - homeOf(i)[0]) + Math.abs(places.get(i)[1] - homeOf(i)[1]);
    }
    return sum / 8.0;
  }

  boolean isConsistent() {
    return true;
  }
}
