import java.util.NoSuchElementException;

/** A caller of square dances: a square, the calls that it dances, and a hall of couples. */
public final class Callerhall {
  private static final int DANCERS = 8;
  private static final int MOST_BODIES = 16;
  private static final int MOST_PLACE = 9;
  private static final int MOST_PAST = 20;

  // The order of the acts is the one in which a way home is sought; a run is never on such a way.
  private static final String ACTS = "uqpbgfhctwxor";
  private static final int AHEAD = 0;
  private static final int RIGHT = 1;
  private static final int LEFT = 2;
  private static final int ABOUT = 3;
  private static final int PASS = 4;
  private static final int PASS_TURN = 5;
  private static final int HINGE = 6;
  private static final int CAST = 7;
  private static final int TRADE = 8;
  private static final int WHEEL = 9;
  private static final int SLIDE = 10;
  private static final int BOX = 11;
  private static final int RUN = 12;
  private static final int[] ACT_PARTS = {2, 1, 1, 2, 2, 3, 1, 3, 2, 2, 1, 1, 1};
  private static final int[] ACT_LEVELS = {1, 1, 1, 1, 1, 2, 2, 3, 1, 2, 2, 2, 3};

  private static final String WHOS = "ahslrce";
  private static final int ALL = 0;
  private static final int HEADS = 1;
  private static final int SIDES = 2;
  private static final int LEFTS = 3;
  private static final int RIGHTS = 4;
  private static final int NEAR = 5;

  private static final String CONCEPTS = "-XYOPTC";
  private static final int PLAIN = 0;
  private static final int BY_X = 1;
  private static final int BY_Y = 2;
  private static final int WIDE = 3;
  private static final int HAUNTED = 4;
  private static final int TANDEM = 5;
  private static final int COUPLES = 6;

  private static final String LETTERS = "ABCDEFGH";

  private static final int NO_PAIR = 0;
  private static final int COUPLE = 1;
  private static final int RIGHT_WAVE = 2;
  private static final int LEFT_WAVE = 3;

  private static final int[] STEP_X = {0, 1, 0, -1};
  private static final int[] STEP_Y = {1, 0, -1, 0};

  private static final int[] SPOT_X = {-1, 1, 3, 3, 1, -1, -3, -3};
  private static final int[] SPOT_Y = {-3, -3, -1, 1, 3, 3, 1, -1};
  private static final int[] SPOT_F = {0, 0, 3, 3, 2, 2, 1, 1};

  private static final String FORMATIONS = "slkwvet";
  // Eight places for each formation, in the order of FORMATIONS.
  private static final int[] SHAPE_X = {
    -1, 1, 3, 3, 1, -1, -3, -3,
    -3, -1, 1, 3, -3, -1, 1, 3,
    -3, -1, 1, 3, -3, -1, 1, 3,
    -3, -1, 1, 3, -3, -1, 1, 3,
    -3, -1, 1, 3, -3, -1, 1, 3,
    -1, -1, -1, -1, 1, 1, 1, 1,
    -7, -5, -3, -1, 1, 3, 5, 7};
  private static final int[] SHAPE_Y = {
    -3, -3, -1, 1, 3, 3, 1, -1,
    -1, -1, -1, -1, 1, 1, 1, 1,
    -1, -1, -1, -1, 1, 1, 1, 1,
    -1, -1, -1, -1, 1, 1, 1, 1,
    -1, -1, -1, -1, 1, 1, 1, 1,
    -3, -1, 1, 3, -3, -1, 1, 3,
    0, 0, 0, 0, 0, 0, 0, 0};
  private static final int[] SHAPE_F = {
    0, 0, 3, 3, 2, 2, 1, 1,
    0, 0, 0, 0, 2, 2, 2, 2,
    2, 2, 2, 2, 0, 0, 0, 0,
    0, 2, 0, 2, 0, 2, 0, 2,
    2, 0, 2, 0, 2, 0, 2, 0,
    0, 2, 0, 2, 0, 2, 0, 2,
    0, 2, 0, 2, 0, 2, 0, 2};

  private final Places dancers = new Places();
  private final Places phantoms = new Places();
  private final Places trial = new Places();
  private final int[] skills = new int[DANCERS];
  private final int[] experts = new int[DANCERS];
  private final Stage stage = new Stage(phantoms);
  private final Book book = new Book();
  private final Plan plan = new Plan();
  private final Plan rest = new Plan();
  private final Past past = new Past();
  private final Flow flow = new Flow();
  private final Song song = new Song();
  private final Party party = new Party();
  private final Tally tally = new Tally();
  private final int[] turnsAhead = new int[DANCERS];
  private final int[] way = new int[2];
  private int wayLength = 0;
  private int levelTold = 3;
  private int yearTold = 2000;

  public Callerhall() {
    dancers.count = DANCERS;
    for (int i = 0; i < DANCERS; i++) {
      dancers.tell(i, SPOT_X[i], SPOT_Y[i], SPOT_F[i]);
      skills[i] = 3;
      experts[i] = 3;
    }
  }

  // ---- dancers

  public int home() {
    int away = countAway();
    putAllHome();
    return away;
  }

  public int x(int dancer) throws IndexOutOfBoundsException {
    checkDancer(dancer);
    return dancers.x[dancer];
  }

  public int y(int dancer) throws IndexOutOfBoundsException {
    checkDancer(dancer);
    return dancers.y[dancer];
  }

  public int facing(int dancer) throws IndexOutOfBoundsException {
    checkDancer(dancer);
    return dancers.f[dancer];
  }

  public int put(int dancer, int x, int y, int facing)
      throws IndexOutOfBoundsException, IllegalArgumentException, UnsupportedOperationException {
    checkDancer(dancer);
    checkPlace(x, y, facing);
    int there = dancers.indexAt(x, y);
    if (there >= 0 && there != dancer) {
      throw new UnsupportedOperationException();
    }
    int before = dancers.f[dancer];
    dancers.tell(dancer, x, y, facing);
    forgetPast();
    return before;
  }

  public int change(int one, int other) throws IndexOutOfBoundsException, IllegalArgumentException {
    checkDancer(one);
    checkDancer(other);
    if (one == other) {
      throw new IllegalArgumentException();
    }
    int x = dancers.x[one];
    int y = dancers.y[one];
    int facing = dancers.f[one];
    int apart = Math.abs(x - dancers.x[other]) + Math.abs(y - dancers.y[other]);
    dancers.tell(one, dancers.x[other], dancers.y[other], dancers.f[other]);
    dancers.tell(other, x, y, facing);
    forgetPast();
    return apart;
  }

  public int turnAll(int quarters) throws IllegalArgumentException {
    if (quarters < 1 || quarters > 3) {
      throw new IllegalArgumentException();
    }
    for (int i = 0; i < DANCERS; i++) {
      int x = dancers.x[i];
      int y = dancers.y[i];
      dancers.tell(i, turnedX(x, y, quarters), turnedY(x, y, quarters), (dancers.f[i] - quarters) & 3);
    }
    forgetPast();
    return dancers.f[0];
  }

  public int find(int x, int y) throws NoSuchElementException {
    int there = dancers.indexAt(x, y);
    if (there < 0) {
      throw new NoSuchElementException();
    }
    return there;
  }

  public int skill(int dancer, int skill) throws IndexOutOfBoundsException, IllegalArgumentException {
    checkDancer(dancer);
    if (skill < 0 || skill > 3) {
      throw new IllegalArgumentException();
    }
    int before = skills[dancer];
    skills[dancer] = skill;
    rest.clear();
    return before;
  }

  public int phantom(int x, int y, int facing)
      throws IllegalArgumentException, UnsupportedOperationException, IllegalStateException {
    checkPlace(x, y, facing);
    if (phantoms.indexAt(x, y) >= 0) {
      throw new UnsupportedOperationException();
    }
    if (phantoms.count >= DANCERS) {
      throw new IllegalStateException();
    }
    phantoms.tell(phantoms.count, x, y, facing);
    phantoms.count++;
    rest.clear();
    return phantoms.count;
  }

  public int clearPhantoms() {
    int before = phantoms.count;
    phantoms.count = 0;
    rest.clear();
    return before;
  }

  // ---- definitions

  public int level(int level) throws IllegalArgumentException {
    if (level < 1 || level > 3) {
      throw new IllegalArgumentException();
    }
    int before = levelTold;
    levelTold = level;
    return before;
  }

  public int year(int year) throws IllegalArgumentException {
    checkYear(year);
    int before = yearTold;
    yearTold = year;
    rest.clear();
    return before;
  }

  public int define(char call, int year, char act, char who, char concept)
      throws IllegalArgumentException, IllegalStateException {
    int letter = letterOf(call);
    int actIndex = actOf(act);
    int whoIndex = whoOf(who);
    int conceptIndex = conceptOf(concept);
    checkYear(year);
    if (!book.canAdd(letter, year)) {
      throw new IllegalStateException();
    }
    rest.clear();
    return book.add(letter, year, actIndex, whoIndex, conceptIndex);
  }

  public int forget(char call) throws IllegalArgumentException {
    int letter = letterOf(call);
    rest.clear();
    return book.drop(letter);
  }

  public int timing(char call, int year, int beats) throws IllegalArgumentException, NoSuchElementException {
    int letter = letterOf(call);
    if (beats < 1 || beats > 99) {
      throw new IllegalArgumentException();
    }
    int version = book.versionOf(letter, year);
    if (version < 0) {
      throw new NoSuchElementException();
    }
    plan.readVersion(book, version);
    book.beatsTold[version] = beats;
    rest.clear();
    return plan.beatCount;
  }

  public int parts(char call) throws IllegalArgumentException, NoSuchElementException {
    readCall(call);
    return plan.partCount;
  }

  public int beatsOf(char call) throws IllegalArgumentException, NoSuchElementException {
    readCall(call);
    return plan.beatCount;
  }

  public int levelOf(char call) throws IllegalArgumentException, NoSuchElementException {
    readCall(call);
    return plan.highest;
  }

  // ---- calling

  public int dance(char call, char who, char concept, int up, int down)
      throws IllegalArgumentException, NoSuchElementException, UnsupportedOperationException {
    int whoIndex = whoOf(who);
    int conceptIndex = conceptOf(concept);
    if (ACTS.indexOf(call) < 0 && whoIndex != ALL) {
      throw new IllegalArgumentException();
    }
    if (up < 1 || up > 12 || down < up || down > 12) {
      throw new IllegalArgumentException();
    }
    readCall(call);
    plan.putOn(whoIndex, conceptIndex);
    int amount = plan.partCount * up;
    int most = amount / down;
    stage.load(dancers, skills);
    judge(plan, amount % down == 0, most, 0);
    past.keep(dancers, call);
    settle(plan.beatsUpTo(most));
    rest.clear();
    if (most < plan.partCount) {
      rest.copy(plan, most);
    }
    return most;
  }

  public int finish() throws IllegalStateException, UnsupportedOperationException {
    int remaining = left();
    if (remaining == 0) {
      throw new IllegalStateException();
    }
    past.readLast(trial);
    stage.load(trial, skills);
    judge(rest, true, rest.partCount, rest.done);
    settle(rest.beatCount - rest.beatsUpTo(rest.done));
    rest.clear();
    return remaining;
  }

  public int left() {
    return rest.partCount - rest.done;
  }

  public char why() {
    return tally.reason;
  }

  public int whom() throws NoSuchElementException {
    if (tally.culprit < 0) {
      throw new NoSuchElementException();
    }
    return tally.culprit;
  }

  public boolean fits(char act, char who, char concept) throws IllegalArgumentException {
    int actIndex = actOf(act);
    int whoIndex = whoOf(who);
    int conceptIndex = conceptOf(concept);
    plan.readAct(actIndex);
    plan.putOn(whoIndex, conceptIndex);
    stage.load(dancers, skills);
    return stage.run(plan, plan.partCount, 0) == '-';
  }

  public int back() throws NoSuchElementException {
    if (past.size == 0) {
      throw new NoSuchElementException();
    }
    past.readLast(dancers);
    past.drop();
    rest.clear();
    return past.size;
  }

  public int calls() {
    return past.size;
  }

  public char callAt(int index) throws IndexOutOfBoundsException {
    if (index < 0 || index >= past.size) {
      throw new IndexOutOfBoundsException();
    }
    return past.letterAt(index);
  }

  // ---- what is found

  public boolean isAmong(int dancer, char who)
      throws IndexOutOfBoundsException, IllegalArgumentException, NoSuchElementException {
    checkDancer(dancer);
    int whoIndex = whoOf(who);
    stage.load(dancers, experts);
    if (!stage.steps.tell(stage.ground, whoIndex)) {
      throw new NoSuchElementException();
    }
    return stage.steps.told[dancer];
  }

  public int partner(int dancer, boolean isFacing, int spacing)
      throws IndexOutOfBoundsException, IllegalArgumentException, NoSuchElementException {
    checkDancer(dancer);
    if (spacing != 2 && spacing != 4) {
      throw new IllegalArgumentException();
    }
    pairAll(isFacing ? PASS : TRADE, spacing);
    int mate = stage.steps.mate[dancer];
    if (mate < 0) {
      throw new NoSuchElementException();
    }
    return mate;
  }

  public char pair(int dancer) throws IndexOutOfBoundsException, NoSuchElementException {
    checkDancer(dancer);
    pairAll(TRADE, 2);
    int kind = stage.steps.kind[dancer];
    if (kind == NO_PAIR) {
      throw new NoSuchElementException();
    }
    return kind == COUPLE ? 'c' : kind == RIGHT_WAVE ? 'r' : 'l';
  }

  public char formation() {
    for (int i = 0; i < FORMATIONS.length(); i++) {
      if (countOutside(i) == 0) {
        return FORMATIONS.charAt(i);
      }
    }
    return '-';
  }

  public int repairs(char formation) throws IllegalArgumentException {
    int shape = FORMATIONS.indexOf(formation);
    if (shape < 0) {
      throw new IllegalArgumentException();
    }
    return countOutside(shape);
  }

  public boolean isHome() {
    return areHome(dancers.x, dancers.y, dancers.f);
  }

  public boolean isSymmetric() {
    for (int i = 0; i < DANCERS; i++) {
      int other = (i + 4) % DANCERS;
      if (dancers.x[i] != -dancers.x[other] || dancers.y[i] != -dancers.y[other]
          || dancers.f[i] != ((dancers.f[other] + 2) & 3)) {
        return false;
      }
    }
    return true;
  }

  public int turned(int dancer) throws IndexOutOfBoundsException {
    checkDancer(dancer);
    return flow.lastTurns[dancer];
  }

  public int broken() {
    return flow.breaks;
  }

  public int clashes() {
    return flow.clashCount;
  }

  public int wayHome(int most) throws IllegalArgumentException, NoSuchElementException {
    if (most < 0 || most > 2) {
      throw new IllegalArgumentException();
    }
    if (isHome()) {
      wayLength = 0;
      return 0;
    }
    if (most > 0 && findLastAct(dancers, 0)) {
      wayLength = 1;
      return 1;
    }
    for (int act = 0; act < RUN && most > 1; act++) {
      plan.readAct(act);
      stage.load(dancers, experts);
      if (stage.run(plan, plan.partCount, 0) == '-') {
        trial.read(stage.ground);
        if (findLastAct(trial, 1)) {
          way[0] = act;
          wayLength = 2;
          return 2;
        }
      }
    }
    throw new NoSuchElementException();
  }

  public char wayAt(int index) throws IndexOutOfBoundsException {
    if (index < 0 || index >= wayLength || index >= way.length) {
      throw new IndexOutOfBoundsException();
    }
    int act = way[index];
    return act >= 0 && act < ACTS.length() ? ACTS.charAt(act) : '-';
  }

  // ---- singing and the hall

  public int sing(int beats) throws IllegalArgumentException {
    if (beats < 8 || beats > 128) {
      throw new IllegalArgumentException();
    }
    int before = song.done;
    song.begin(beats);
    return before;
  }

  public int sung() {
    return song.done;
  }

  public int progress() throws UnsupportedOperationException, IllegalStateException {
    if (countAway() > 0) {
      throw new UnsupportedOperationException();
    }
    if (song.figure == 0) {
      throw new IllegalStateException();
    }
    int more = song.figure - song.done;
    song.rightsGone = (song.rightsGone + 1) & 3;
    song.begin(song.figure);
    putAllHome();
    return more;
  }

  public int gone() {
    return song.rightsGone;
  }

  public int hall(int couples) throws IllegalArgumentException {
    if (couples < 4 || couples > Party.MOST_COUPLES) {
      throw new IllegalArgumentException();
    }
    int before = party.tips;
    party.open(couples);
    return before;
  }

  public int tip() throws IllegalStateException {
    if (party.couples == 0 || party.tips >= Party.MOST_TIPS) {
      throw new IllegalStateException();
    }
    return party.fillTip();
  }

  public int setOf(int tip, int couple) throws IndexOutOfBoundsException {
    if (tip < 0 || tip >= party.tips || tip >= Party.MOST_TIPS) {
      throw new IndexOutOfBoundsException();
    }
    checkCouple(couple);
    return party.sets[tip][couple];
  }

  public int met(int one, int other) throws IndexOutOfBoundsException, IllegalArgumentException {
    checkCouple(one);
    checkCouple(other);
    if (one == other) {
      throw new IllegalArgumentException();
    }
    return party.meetings[one][other];
  }

  // ---- figures

  public long beats() {
    return song.doneInAll;
  }

  public float doneShare() throws ArithmeticException {
    if (tally.tried == 0) {
      throw new ArithmeticException();
    }
    return (float) tally.danced / (float) tally.tried;
  }

  public double meanAway() {
    long sum = 0;
    for (int i = 0; i < DANCERS; i++) {
      int spot = spotOf(i);
      sum += Math.abs((long) dancers.x[i] - SPOT_X[spot]) + Math.abs((long) dancers.y[i] - SPOT_Y[spot]);
    }
    return (double) sum / (double) DANCERS;
  }

  public boolean isConsistent() {
    for (int i = 0; i < DANCERS; i++) {
      if (dancers.indexAt(dancers.x[i], dancers.y[i]) != i) {
        return false;
      }
    }
    for (int act = 0; act < ACTS.length(); act++) {
      if (!isDoneInParts(act)) {
        return false;
      }
    }
    return party.isCounted();
  }

  // ---- checks of what is told

  private void checkDancer(int dancer) {
    if (dancer < 0 || dancer >= DANCERS) {
      throw new IndexOutOfBoundsException();
    }
  }

  private void checkPlace(int x, int y, int facing) {
    if (x < -MOST_PLACE || x > MOST_PLACE || y < -MOST_PLACE || y > MOST_PLACE || facing < 0 || facing > 3) {
      throw new IllegalArgumentException();
    }
  }

  private void checkYear(int year) {
    if (year < 1900 || year > 2100) {
      throw new IllegalArgumentException();
    }
  }

  private void checkCouple(int couple) {
    if (couple < 0 || couple >= party.couples || couple >= Party.MOST_COUPLES) {
      throw new IndexOutOfBoundsException();
    }
  }

  private int letterOf(char call) {
    return indexIn(LETTERS, call);
  }

  private int actOf(char act) {
    return indexIn(ACTS, act);
  }

  private int whoOf(char who) {
    return indexIn(WHOS, who);
  }

  private int conceptOf(char concept) {
    return indexIn(CONCEPTS, concept);
  }

  private int indexIn(String signs, char sign) {
    int index = signs.indexOf(sign);
    if (index < 0) {
      throw new IllegalArgumentException();
    }
    return index;
  }

  /** Reads an act, or a call as it holds, into the plan. */
  private void readCall(char call) {
    int act = ACTS.indexOf(call);
    if (act >= 0) {
      plan.readAct(act);
      return;
    }
    int version = book.holding(letterOf(call), yearTold);
    if (version < 0) {
      throw new NoSuchElementException();
    }
    plan.readVersion(book, version);
  }

  // ---- dancing

  /** Tries what the stage was loaded for; parts ahead of from were counted before. */
  private void judge(Plan wanted, boolean isWhole, int most, int from) {
    tally.tried++;
    tally.culprit = -1;
    if (wanted.highest > levelTold) {
      tally.reason = 'n';
    } else if (!isWhole) {
      tally.reason = 'f';
    } else {
      tally.reason = stage.run(wanted, most, from);
      tally.culprit = stage.culprit;
    }
    if (tally.reason != '-') {
      throw new UnsupportedOperationException();
    }
  }

  private void settle(int beats) {
    tally.danced++;
    dancers.read(stage.ground);
    flow.count(stage.ground);
    song.count(beats);
  }

  private void pairAll(int act, int spacing) {
    stage.load(dancers, experts);
    stage.steps.space(spacing, false, false);
    stage.steps.tell(stage.ground, ALL);
    stage.steps.ready(stage.ground, act);
  }

  /** Finds the first act that leads home from places, and keeps it at an index of the way. */
  private boolean findLastAct(Places from, int index) {
    for (int act = 0; act < RUN; act++) {
      plan.readAct(act);
      stage.load(from, experts);
      if (stage.run(plan, plan.partCount, 0) == '-' && areHome(stage.ground.x, stage.ground.y, stage.ground.f)) {
        way[index] = act;
        return true;
      }
    }
    return false;
  }

  /** Whether an act by all ends alike, danced at once or as its first part and what is then left. */
  private boolean isDoneInParts(int act) {
    plan.readAct(act);
    stage.load(dancers, skills);
    if (stage.run(plan, plan.partCount, 0) != '-') {
      return true;
    }
    trial.read(stage.ground);
    for (int i = 0; i < DANCERS; i++) {
      turnsAhead[i] = stage.ground.turns[i];
    }
    stage.load(dancers, skills);
    boolean isFirstDanced = stage.run(plan, 1, 0) == '-';
    for (int i = 0; i < DANCERS; i++) {
      turnsAhead[i] -= stage.ground.turns[i];
    }
    stage.load(dancers, skills);
    boolean isRestDanced = stage.run(plan, plan.partCount, 1) == '-';
    for (int i = 0; i < DANCERS; i++) {
      if (turnsAhead[i] != stage.ground.turns[i] || !trial.isAt(i, stage.ground)) {
        return false;
      }
    }
    return isFirstDanced && isRestDanced;
  }

  // ---- homes and shapes

  private void putAllHome() {
    for (int i = 0; i < DANCERS; i++) {
      int spot = spotOf(i);
      dancers.tell(i, SPOT_X[spot], SPOT_Y[spot], SPOT_F[spot]);
    }
    flow.clear();
    forgetPast();
  }

  private void forgetPast() {
    past.size = 0;
    rest.clear();
  }

  private int spotOf(int dancer) {
    int moved = dancer % 2 == 0 ? dancer : dancer + 2 * song.rightsGone;
    return moved & 7;
  }

  private int countAway() {
    int away = 0;
    for (int i = 0; i < DANCERS; i++) {
      int spot = spotOf(i);
      if (dancers.x[i] != SPOT_X[spot] || dancers.y[i] != SPOT_Y[spot] || dancers.f[i] != SPOT_F[spot]) {
        away++;
      }
    }
    return away;
  }

  private boolean areHome(int[] x, int[] y, int[] f) {
    // A quarter to the left puts the spots of a couple on those of the next one.
    for (int quarters = 0; quarters < 4; quarters++) {
      int there = 0;
      for (int i = 0; i < DANCERS && i < x.length && i < y.length && i < f.length; i++) {
        int spot = (spotOf(i) + 2 * quarters) & 7;
        if (x[i] == SPOT_X[spot] && y[i] == SPOT_Y[spot] && f[i] == SPOT_F[spot]) {
          there++;
        }
      }
      if (there == DANCERS) {
        return true;
      }
    }
    return false;
  }

  private int countOutside(int shape) {
    int least = DANCERS;
    for (int quarters = 0; quarters < 4; quarters++) {
      int outside = 0;
      for (int i = 0; i < DANCERS; i++) {
        if (!isInShape(shape, i, quarters)) {
          outside++;
        }
      }
      least = Math.min(least, outside);
    }
    return least;
  }

  private boolean isInShape(int shape, int dancer, int quarters) {
    int x = turnedX(dancers.x[dancer], dancers.y[dancer], quarters);
    int y = turnedY(dancers.x[dancer], dancers.y[dancer], quarters);
    int f = (dancers.f[dancer] - quarters) & 3;
    int from = shape * DANCERS;
    for (int i = Math.max(0, from); i < from + DANCERS && i < SHAPE_X.length; i++) {
      if (SHAPE_X[i] == x && SHAPE_Y[i] == y && SHAPE_F[i] == f) {
        return true;
      }
    }
    return false;
  }

  private static int turnedX(int x, int y, int quarters) {
    return quarters == 1 ? -y : quarters == 2 ? -x : quarters == 3 ? y : x;
  }

  private static int turnedY(int x, int y, int quarters) {
    return quarters == 1 ? x : quarters == 2 ? -y : quarters == 3 ? -x : y;
  }

  /** Where up to eight dancers or phantoms are. */
  private static final class Places {
    final int[] x = new int[DANCERS];
    final int[] y = new int[DANCERS];
    final int[] f = new int[DANCERS];
    int count = 0;

    void tell(int index, int toX, int toY, int toF) {
      if (index >= 0 && index < DANCERS) {
        x[index] = toX;
        y[index] = toY;
        f[index] = toF;
      }
    }

    int indexAt(int atX, int atY) {
      for (int i = 0; i < count && i < DANCERS; i++) {
        if (x[i] == atX && y[i] == atY) {
          return i;
        }
      }
      return -1;
    }

    void read(Floor floor) {
      count = DANCERS;
      for (int i = 0; i < DANCERS; i++) {
        tell(i, floor.x[i], floor.y[i], floor.f[i]);
      }
    }

    boolean isAt(int index, Floor floor) {
      return index >= 0 && index < DANCERS
          && x[index] == floor.x[index] && y[index] == floor.y[index] && f[index] == floor.f[index];
    }
  }

  /** The places ahead of the calls that can be taken back, in a ring of rows. */
  private static final class Past {
    final int[][] rows = new int[MOST_PAST][3 * DANCERS];
    final char[] letters = new char[MOST_PAST];
    int newest = 0;
    int size = 0;

    void keep(Places places, char letter) {
      newest = Math.floorMod(newest + 1, MOST_PAST);
      size = Math.min(size + 1, MOST_PAST);
      letters[newest] = letter;
      int[] row = rows[newest];
      for (int i = 0; i < DANCERS; i++) {
        row[3 * i] = places.x[i];
        row[3 * i + 1] = places.y[i];
        row[3 * i + 2] = places.f[i];
      }
    }

    void readLast(Places places) {
      int[] row = rows[Math.floorMod(newest, MOST_PAST)];
      for (int i = 0; i < DANCERS; i++) {
        places.tell(i, row[3 * i], row[3 * i + 1], row[3 * i + 2]);
      }
    }

    void drop() {
      newest = Math.floorMod(newest - 1, MOST_PAST);
      size = Math.max(0, size - 1);
    }

    char letterAt(int index) {
      return letters[Math.floorMod(newest - index, MOST_PAST)];
    }
  }

  /** The versions of the calls that were defined, at most three for each letter. */
  private static final class Book {
    static final int MOST_VERSIONS = 3;
    static final int MOST_ACTS = 8;
    // Three places for each letter from A to H.
    static final int PLACES = 24;
    final int[] versions = new int[PLACES / MOST_VERSIONS];
    final int[] years = new int[PLACES];
    final int[] actCounts = new int[PLACES];
    // 0 as long as no beats were told.
    final int[] beatsTold = new int[PLACES];
    final int[][] acts = new int[PLACES][MOST_ACTS];
    final int[][] whos = new int[PLACES][MOST_ACTS];
    final int[][] concepts = new int[PLACES][MOST_ACTS];

    int versionOf(int letter, int year) {
      int first = letter * MOST_VERSIONS;
      for (int i = first; i < first + versions[letter] && i < PLACES; i++) {
        if (years[i] == year) {
          return i;
        }
      }
      return -1;
    }

    /** The version that holds in a year, or -1. */
    int holding(int letter, int year) {
      int first = letter * MOST_VERSIONS;
      int best = -1;
      for (int i = first; i < first + versions[letter] && i < PLACES; i++) {
        if (years[i] <= year && (best < 0 || years[i] > years[best])) {
          best = i;
        }
      }
      return best;
    }

    boolean canAdd(int letter, int year) {
      int version = versionOf(letter, year);
      return version < 0 ? versions[letter] < MOST_VERSIONS : actCounts[version] < MOST_ACTS;
    }

    int add(int letter, int year, int act, int who, int concept) {
      int version = versionOf(letter, year);
      if (version < 0) {
        version = letter * MOST_VERSIONS + versions[letter];
        versions[letter]++;
        years[version] = year;
        actCounts[version] = 0;
        beatsTold[version] = 0;
      }
      int index = actCounts[version];
      acts[version][index] = act;
      whos[version][index] = who;
      concepts[version][index] = concept;
      actCounts[version]++;
      return actCounts[version];
    }

    int drop(int letter) {
      int before = versions[letter];
      versions[letter] = 0;
      return before;
    }
  }

  /** A call to be danced: its acts, each by some and with a concept, and the concept put on all. */
  private static final class Plan {
    final int[] acts = new int[Book.MOST_ACTS];
    final int[] whos = new int[Book.MOST_ACTS];
    final int[] concepts = new int[Book.MOST_ACTS];
    int actCount = 0;
    int concept = PLAIN;
    int partCount = 0;
    int beatCount = 0;
    int highest = 0;
    int done = 0;

    void clear() {
      actCount = 0;
      concept = PLAIN;
      partCount = 0;
      beatCount = 0;
      highest = 0;
      done = 0;
    }

    private void append(int act, int who, int inner) {
      if (actCount < 0 || actCount >= Book.MOST_ACTS || act < 0 || act >= ACT_PARTS.length) {
        return;
      }
      acts[actCount] = act;
      whos[actCount] = who;
      concepts[actCount] = inner;
      actCount++;
      partCount += ACT_PARTS[act];
      beatCount = 2 * partCount;
      highest = Math.max(highest, ACT_LEVELS[act]);
    }

    void readAct(int act) {
      clear();
      append(act, ALL, PLAIN);
    }

    /** Puts a concept on all; others than all can be told for a single act only. */
    void putOn(int who, int outer) {
      if (who != ALL) {
        whos[0] = who;
      }
      concept = outer;
    }

    void readVersion(Book book, int version) {
      clear();
      for (int i = 0; i < book.actCounts[version]; i++) {
        append(book.acts[version][i], book.whos[version][i], book.concepts[version][i]);
      }
      if (book.beatsTold[version] > 0) {
        beatCount = book.beatsTold[version];
      }
    }

    void copy(Plan other, int partsDone) {
      clear();
      for (int i = 0; i < other.actCount; i++) {
        append(other.acts[i], other.whos[i], other.concepts[i]);
      }
      concept = other.concept;
      beatCount = other.beatCount;
      done = partsDone;
    }

    /** Of a concept put on the call and an act's own one: phantoms that are there already do not come again. */
    int innerAt(int index) {
      return concept == HAUNTED && concepts[index] == HAUNTED ? PLAIN : concepts[index];
    }

    /** The beats of the first parts, rounded down. */
    int beatsUpTo(int parts) {
      return partCount == 0 ? 0 : beatCount * parts / partCount;
    }
  }

  /** A row of bodies: dancers, phantoms, or units of two bodies of the floor below. */
  private static final class Floor {
    final int[] x = new int[MOST_BODIES];
    final int[] y = new int[MOST_BODIES];
    final int[] f = new int[MOST_BODIES];
    final int[] number = new int[MOST_BODIES];
    final int[] ability = new int[MOST_BODIES];
    // A bit for each of heads, sides, lefts and rights.
    final int[] groups = new int[MOST_BODIES];
    final int[] wasX = new int[MOST_BODIES];
    final int[] wasY = new int[MOST_BODIES];
    final int[] turns = new int[MOST_BODIES];
    final int[] firstHand = new int[MOST_BODIES];
    final int[] lastHand = new int[MOST_BODIES];
    final int[] lead = new int[MOST_BODIES];
    final int[] trail = new int[MOST_BODIES];
    final boolean[] passing = new boolean[MOST_BODIES];
    int count = 0;
    boolean isCounting = true;

    private void add(int atX, int atY, int atF, int bodyNumber, int skill, int bits) {
      if (count < 0 || count >= MOST_BODIES) {
        return;
      }
      x[count] = atX;
      y[count] = atY;
      f[count] = atF & 3;
      number[count] = bodyNumber;
      ability[count] = skill;
      groups[count] = bits;
      turns[count] = 0;
      firstHand[count] = NO_PAIR;
      lastHand[count] = NO_PAIR;
      count++;
    }

    void addDancers(Places places, int[] skills) {
      count = 0;
      for (int i = 0; i < DANCERS && i < skills.length; i++) {
        int bits = bitOf(i / 2 % 2 == 0 ? HEADS : SIDES) | bitOf(i % 2 == 0 ? LEFTS : RIGHTS);
        add(places.x[i], places.y[i], places.f[i], i, skills[i], bits);
      }
    }

    void addPhantoms(Places phantoms) {
      for (int i = 0; i < phantoms.count && i < DANCERS; i++) {
        int bits = bitOf(i % 2 == 0 ? LEFTS : RIGHTS);
        add(phantoms.x[i], phantoms.y[i], phantoms.f[i], DANCERS + i, 3, bits);
      }
    }

    void dropPhantoms(Places phantoms) {
      count = Math.max(0, count - phantoms.count);
    }

    /** Adds a unit of two bodies of the floor below; false if its place would not be whole. */
    boolean addUnit(Floor below, int leader, int other, boolean isAlongX) {
      int midX = (below.x[leader] + below.x[other]) / 2;
      int midY = (below.y[leader] + below.y[other]) / 2;
      if (count < 0 || count >= MOST_BODIES || (isAlongX ? midX : midY) % 2 != 0) {
        return false;
      }
      lead[count] = leader;
      trail[count] = other;
      int skill = Math.min(below.ability[leader], below.ability[other]);
      int bits = below.groups[leader] & below.groups[other];
      add(isAlongX ? midX / 2 : midX, isAlongX ? midY : midY / 2, below.f[leader], below.number[leader], skill, bits);
      return true;
    }

    static int bitOf(int who) {
      return 1 << who;
    }

    /** Whether one body is, seen from the other one, in a direction. */
    boolean isToward(int one, int other, int direction) {
      int dir = direction & 3;
      return (x[one] - x[other]) * STEP_X[dir] + (y[one] - y[other]) * STEP_Y[dir] > 0;
    }

    void mark() {
      for (int i = 0; i < count; i++) {
        wasX[i] = x[i];
        wasY[i] = y[i];
      }
    }

    void go(int i, int direction, int steps) {
      int dir = direction & 3;
      x[i] += steps * STEP_X[dir];
      y[i] += steps * STEP_Y[dir];
    }

    void turnBy(int i, int quarters) {
      f[i] = (f[i] + quarters) & 3;
      if (isCounting) {
        turns[i] += quarters;
      }
    }

    /** Carries a body by a quarter around a midst, to the right or, by -1, to the left. */
    void carry(int i, int midX, int midY, int quarter) {
      int dx = x[i] - midX;
      int dy = y[i] - midY;
      x[i] = midX + quarter * dy;
      y[i] = midY - quarter * dx;
      turnBy(i, quarter);
    }

    void trade(int i, int j) {
      int oldX = x[i];
      int oldY = y[i];
      x[i] = x[j];
      y[i] = y[j];
      x[j] = oldX;
      y[j] = oldY;
    }

    void takeHand(int i, int hand) {
      if (firstHand[i] == NO_PAIR) {
        firstHand[i] = hand;
      }
      lastHand[i] = hand;
    }

    /** Lets those who meet pass; then the lowest number of a body that is not alone, or -1. */
    int collide() {
      for (int i = 0; i < count; i++) {
        passing[i] = isPassing(i);
      }
      for (int i = 0; i < count; i++) {
        if (passing[i]) {
          go(i, f[i] + 3, 1);
        }
      }
      int lowest = -1;
      for (int i = 0; i < count; i++) {
        if ((lowest < 0 || number[i] < lowest) && countWith(i) > 1) {
          lowest = number[i];
        }
      }
      return lowest;
    }

    private boolean isPassing(int i) {
      int other = -1;
      int others = 0;
      for (int j = 0; j < count; j++) {
        if (j != i && x[j] == x[i] && y[j] == y[i]) {
          other = j;
          others++;
        }
      }
      return others == 1 && f[other] == ((f[i] + 2) & 3) && hasMoved(i) && hasMoved(other);
    }

    private boolean hasMoved(int i) {
      return x[i] != wasX[i] || y[i] != wasY[i];
    }

    private int countWith(int i) {
      int there = 0;
      for (int j = 0; j < count; j++) {
        if (x[j] == x[i] && y[j] == y[i]) {
          there++;
        }
      }
      return there;
    }

    /** Lets the units of the floor above lie along x, or y, and brings back how they turned. */
    void spread(Floor above, boolean isTandem, boolean isAlongX) {
      for (int u = 0; u < above.count; u++) {
        int midX = isAlongX ? 2 * above.x[u] : above.x[u];
        int midY = isAlongX ? above.y[u] : 2 * above.y[u];
        int toLead = isTandem ? above.f[u] : above.f[u] + 3;
        settle(above, u, above.lead[u], midX, midY, toLead);
        settle(above, u, above.trail[u], midX, midY, toLead + 2);
      }
    }

    private void settle(Floor above, int u, int i, int midX, int midY, int direction) {
      x[i] = midX;
      y[i] = midY;
      go(i, direction, 1);
      f[i] = above.f[u];
      turns[i] += above.turns[u];
      if (above.firstHand[u] != NO_PAIR) {
        takeHand(i, above.firstHand[u]);
        takeHand(i, above.lastHand[u]);
      }
    }
  }

  /** Who dances an act, with whom, and what each does in a part of it. */
  private static final class Steps {
    final boolean[] told = new boolean[MOST_BODIES];
    final boolean[] isDancing = new boolean[MOST_BODIES];
    final int[] order = new int[MOST_BODIES];
    // The side of 0 on which a body is, as far as that parts bodies; -1 if it can have no partner.
    final int[] zone = new int[MOST_BODIES];
    final int[] mate = new int[MOST_BODIES];
    final int[] kind = new int[MOST_BODIES];
    final boolean[] isBoxed = new boolean[MOST_BODIES];
    final int[] boxX = new int[MOST_BODIES];
    final int[] boxY = new int[MOST_BODIES];
    int spacing = 2;
    boolean isPartedByX = false;
    boolean isPartedByY = false;

    void space(int apart, boolean byX, boolean byY) {
      spacing = apart;
      isPartedByX = byX;
      isPartedByY = byY;
    }

    /** Finds who is told; false if there are no such bodies, or nobody is among them. */
    boolean tell(Floor floor, int who) {
      boolean hasSome = false;
      boolean hasTie = false;
      for (int i = 0; i < floor.count; i++) {
        int nearness = who < NEAR ? 1 : nearnessOf(floor, i);
        hasTie = hasTie || nearness == 0;
        boolean isInGroup = who == ALL || (floor.groups[i] & Floor.bitOf(who)) != 0;
        told[i] = who < NEAR ? isInGroup : (nearness > 0) == (who == NEAR);
        hasSome = hasSome || told[i];
      }
      return hasSome && !hasTie;
    }

    /** 1 for the nearer half, -1 for the others, 0 if a body is on the brink. */
    private int nearnessOf(Floor floor, int i) {
      int half = floor.count / 2;
      int sum = Math.abs(floor.x[i]) + Math.abs(floor.y[i]);
      int less = 0;
      int notMore = 0;
      for (int j = 0; j < floor.count; j++) {
        int other = Math.abs(floor.x[j]) + Math.abs(floor.y[j]);
        less += other < sum ? 1 : 0;
        notMore += other <= sum ? 1 : 0;
      }
      return notMore <= half ? 1 : less >= half ? -1 : 0;
    }

    /** Finds the partners or boxes that an act is for, of those told who have the skill. */
    void ready(Floor floor, int act) {
      for (int i = 0; i < floor.count; i++) {
        isDancing[i] = told[i] && floor.ability[i] >= ACT_LEVELS[act];
      }
      begin(floor);
      if (act == PASS || act == PASS_TURN) {
        findFaces(floor);
      } else if (act == BOX) {
        findBoxes(floor);
      } else if (act >= HINGE) {
        findRows(floor, act == RUN);
      }
    }

    private void begin(Floor floor) {
      for (int i = 0; i < floor.count; i++) {
        mate[i] = -1;
        kind[i] = NO_PAIR;
        isBoxed[i] = false;
        boolean isOnLine = (isPartedByX && floor.x[i] == 0) || (isPartedByY && floor.y[i] == 0);
        int side = (isPartedByX && floor.x[i] > 0 ? 1 : 0) + (isPartedByY && floor.y[i] > 0 ? 2 : 0);
        zone[i] = isOnLine ? -1 : side;
        int at = i;
        while (at > 0 && isAheadInOrder(floor, i, order[at - 1])) {
          order[at] = order[at - 1];
          at--;
        }
        order[at] = i;
      }
    }

    private boolean isAheadInOrder(Floor floor, int i, int j) {
      if (floor.x[i] != floor.x[j]) {
        return floor.x[i] < floor.x[j];
      }
      if (floor.y[i] != floor.y[j]) {
        return floor.y[i] < floor.y[j];
      }
      return floor.number[i] < floor.number[j];
    }

    private void findFaces(Floor floor) {
      for (int i = 0; i < floor.count; i++) {
        if (isDancing[i] && zone[i] >= 0) {
          int dir = floor.f[i] & 3;
          int atX = floor.x[i] + spacing * STEP_X[dir];
          int atY = floor.y[i] + spacing * STEP_Y[dir];
          for (int p = 0; p < floor.count && mate[i] < 0; p++) {
            int j = order[p];
            if (isDancing[j] && zone[j] == zone[i] && floor.x[j] == atX && floor.y[j] == atY
                && floor.f[j] == ((dir + 2) & 3)) {
              mate[i] = j;
            }
          }
        }
      }
    }

    private void findRows(Floor floor, boolean isOfAll) {
      for (int p = 0; p < floor.count; p++) {
        int i = order[p];
        if (mate[i] < 0 && zone[i] >= 0 && (isOfAll || isDancing[i])) {
          int j = findBeside(floor, i, isOfAll);
          if (j >= 0) {
            mate[i] = j;
            mate[j] = i;
            kind[i] = floor.f[i] == floor.f[j] ? COUPLE : floor.isToward(j, i, floor.f[i] + 1) ? RIGHT_WAVE : LEFT_WAVE;
            kind[j] = kind[i];
          }
        }
      }
    }

    private int findBeside(Floor floor, int i, boolean isOfAll) {
      boolean isAlongX = floor.f[i] % 2 == 0;
      int atX = isAlongX ? floor.x[i] + spacing : floor.x[i];
      int atY = isAlongX ? floor.y[i] : floor.y[i] + spacing;
      for (int p = 0; p < floor.count; p++) {
        int j = order[p];
        if (mate[j] < 0 && zone[j] == zone[i] && (isOfAll || isDancing[j])
            && floor.x[j] == atX && floor.y[j] == atY && floor.f[j] % 2 == floor.f[i] % 2) {
          return j;
        }
      }
      return -1;
    }

    /** Pairs bodies for units: columns, or rows by 2, of all, wherever partners are sought else. */
    void pairForUnits(Floor floor, boolean isTandem) {
      space(2, false, false);
      begin(floor);
      if (isTandem) {
        findColumns(floor);
      } else {
        findRows(floor, true);
      }
    }

    private void findColumns(Floor floor) {
      for (int p = 0; p < floor.count; p++) {
        int i = order[p];
        boolean isAlongX = floor.f[i] % 2 != 0;
        int atX = isAlongX ? floor.x[i] + 2 : floor.x[i];
        int atY = isAlongX ? floor.y[i] : floor.y[i] + 2;
        for (int q = 0; q < floor.count && mate[i] < 0; q++) {
          int j = order[q];
          if (mate[j] < 0 && floor.x[j] == atX && floor.y[j] == atY && floor.f[j] == floor.f[i]) {
            mate[i] = j;
            mate[j] = i;
            kind[i] = COUPLE;
            kind[j] = COUPLE;
          }
        }
      }
    }

    private void findBoxes(Floor floor) {
      for (int p = 0; p < floor.count; p++) {
        int i = order[p];
        int above = findCorner(floor, i, 0, spacing);
        int right = findCorner(floor, i, spacing, 0);
        int across = findCorner(floor, i, spacing, spacing);
        if (isFree(i) && above >= 0 && right >= 0 && across >= 0) {
          putInBox(floor, i, i);
          putInBox(floor, above, i);
          putInBox(floor, right, i);
          putInBox(floor, across, i);
        }
      }
    }

    private boolean isFree(int i) {
      return isDancing[i] && !isBoxed[i] && zone[i] >= 0;
    }

    private int findCorner(Floor floor, int i, int aside, int up) {
      for (int p = 0; p < floor.count; p++) {
        int j = order[p];
        if (isFree(j) && zone[j] == zone[i] && floor.x[j] == floor.x[i] + aside && floor.y[j] == floor.y[i] + up) {
          return j;
        }
      }
      return -1;
    }

    private void putInBox(Floor floor, int i, int least) {
      isBoxed[i] = true;
      boxX[i] = floor.x[least];
      boxY[i] = floor.y[least];
    }

    /** The lowest number of a body that dances without what the act is for, or -1. */
    int findMisfit(Floor floor, int act) {
      int lowest = -1;
      for (int i = 0; i < floor.count; i++) {
        if (isDancing[i] && !hasItsOwn(i, act) && (lowest < 0 || floor.number[i] < lowest)) {
          lowest = floor.number[i];
        }
      }
      return lowest;
    }

    private boolean hasItsOwn(int i, int act) {
      if (act < PASS) {
        return true;
      }
      if (act == BOX) {
        return isBoxed[i];
      }
      int j = mate[i];
      if (j < 0) {
        return false;
      }
      if (act == HINGE || act == CAST) {
        return kind[i] != COUPLE;
      }
      return act == WHEEL ? kind[i] == COUPLE : act != RUN || !isDancing[j];
    }

    void takeHands(Floor floor, int act) {
      if (act == HINGE || act == CAST || act == TRADE) {
        for (int i = 0; i < floor.count; i++) {
          if (isDancing[i] && (kind[i] == RIGHT_WAVE || kind[i] == LEFT_WAVE)) {
            floor.takeHand(i, kind[i]);
          }
        }
      }
    }

    /** Lets all who dance do a part of an act, the first one being 0. */
    void step(Floor floor, int act, int part) {
      for (int i = 0; i < floor.count; i++) {
        if (isDancing[i]) {
          if (act < PASS) {
            stepAlone(floor, i, act);
          } else if (act < HINGE) {
            stepFacing(floor, i, part);
          } else if (act == BOX) {
            stepInBox(floor, i);
          } else {
            stepPair(floor, i, act);
          }
        }
      }
    }

    private void stepAlone(Floor floor, int i, int act) {
      if (act == AHEAD) {
        floor.go(i, floor.f[i], 1);
      } else {
        floor.turnBy(i, act == LEFT ? -1 : 1);
      }
    }

    private void stepFacing(Floor floor, int i, int part) {
      if (part > 1) {
        floor.turnBy(i, floor.number[i] % 2 == 0 ? 1 : -1);
      } else {
        floor.go(i, floor.f[i], spacing / 2);
        floor.go(i, floor.f[i] + (part == 0 ? 3 : 1), 1);
      }
    }

    private void stepInBox(Floor floor, int i) {
      if (isInBox(floor, i, floor.f[i])) {
        floor.go(i, floor.f[i], spacing);
      } else {
        floor.go(i, floor.f[i] + (isInBox(floor, i, floor.f[i] + 1) ? 1 : 3), spacing);
        floor.turnBy(i, 2);
      }
    }

    private boolean isInBox(Floor floor, int i, int direction) {
      int dir = direction & 3;
      int toX = floor.x[i] + spacing * STEP_X[dir];
      int toY = floor.y[i] + spacing * STEP_Y[dir];
      return toX >= boxX[i] && toX <= boxX[i] + spacing && toY >= boxY[i] && toY <= boxY[i] + spacing;
    }

    private void stepPair(Floor floor, int i, int act) {
      int j = mate[i];
      if (j < 0 || j >= floor.count || (j < i && isDancing[j])) {
        return;
      }
      if (act == SLIDE) {
        floor.trade(i, j);
      } else if (act == RUN) {
        floor.trade(i, j);
        floor.turnBy(i, 2);
      } else {
        int quarter = act == WHEEL || kind[i] == LEFT_WAVE ? -1 : 1;
        // A midst that is not whole, where one of both has passed another body, is taken towards 0.
        int midX = (floor.x[i] + floor.x[j]) / 2;
        int midY = (floor.y[i] + floor.y[j]) / 2;
        floor.carry(i, midX, midY, quarter);
        floor.carry(j, midX, midY, quarter);
      }
    }
  }

  /** Where a call is tried: the ground, and floors of units above it, one for each concept that makes units. */
  private static final class Stage {
    final Floor ground = new Floor();
    final Floor middle = new Floor();
    final Floor top = new Floor();
    final Steps steps = new Steps();
    final Places phantoms;
    int depth = 0;
    char reason = '-';
    int culprit = -1;

    Stage(Places phantomsTold) {
      phantoms = phantomsTold;
    }

    void load(Places places, int[] skills) {
      depth = 0;
      ground.addDancers(places, skills);
    }

    /** Dances the first parts of a plan with those loaded, counting turns and hands from a part on. */
    char run(Plan plan, int most, int from) {
      reason = '-';
      culprit = -1;
      enter(plan.concept);
      int done = 0;
      for (int i = 0; i < plan.actCount && done < most && reason == '-'; i++) {
        int act = plan.acts[i];
        int inner = plan.innerAt(i);
        enter(inner);
        Floor floor = floorAt(depth);
        begin(floor, plan, i);
        if (reason == '-' && done >= from) {
          steps.takeHands(floor, act);
        }
        int parts = Math.min(ACT_PARTS[act], most - done);
        for (int part = 0; part < parts && reason == '-'; part++) {
          floor.mark();
          floor.isCounting = done + part >= from;
          steps.step(floor, act, part);
          refuse('b', floor.collide());
        }
        leave(inner);
        done += parts;
      }
      leave(plan.concept);
      return reason;
    }

    private void refuse(char why, int number) {
      if (number >= 0) {
        reason = why;
        culprit = number;
      }
    }

    private Floor floorAt(int height) {
      return height == 0 ? ground : height == 1 ? middle : top;
    }

    private void enter(int concept) {
      if (reason != '-') {
        return;
      }
      if (concept == HAUNTED) {
        floorAt(depth).addPhantoms(phantoms);
      } else if (concept == TANDEM || concept == COUPLES) {
        if (makeUnits(floorAt(depth), floorAt(depth + 1), concept == TANDEM)) {
          depth++;
        } else {
          reason = 'p';
        }
      }
    }

    private void begin(Floor floor, Plan plan, int index) {
      if (reason != '-') {
        return;
      }
      int outer = plan.concept;
      int inner = plan.innerAt(index);
      steps.space(outer == WIDE || inner == WIDE ? 4 : 2, outer == BY_X || inner == BY_X, outer == BY_Y || inner == BY_Y);
      if (steps.tell(floor, plan.whos[index])) {
        steps.ready(floor, plan.acts[index]);
        refuse('p', steps.findMisfit(floor, plan.acts[index]));
      } else {
        reason = 'w';
      }
    }

    private void leave(int concept) {
      if (reason != '-') {
        return;
      }
      if (concept == HAUNTED) {
        floorAt(depth).dropPhantoms(phantoms);
      } else if ((concept == TANDEM || concept == COUPLES) && depth > 0) {
        Floor above = floorAt(depth);
        depth--;
        spreadUnits(floorAt(depth), above, concept == TANDEM);
      }
    }

    private boolean makeUnits(Floor below, Floor above, boolean isTandem) {
      above.count = 0;
      below.mark();
      steps.pairForUnits(below, isTandem);
      boolean isFirstAlongX = false;
      for (int i = 0; i < below.count; i++) {
        int j = steps.mate[i];
        if (j < 0 || steps.kind[i] != COUPLE) {
          return false;
        }
        boolean isAlongX = isTandem == (below.f[i] % 2 != 0);
        isFirstAlongX = i == 0 ? isAlongX : isFirstAlongX;
        boolean isLeader = below.isToward(i, j, isTandem ? below.f[i] : below.f[i] + 3);
        if (isAlongX != isFirstAlongX || (isLeader && !above.addUnit(below, i, j, isAlongX))) {
          return false;
        }
      }
      return true;
    }

    private void spreadUnits(Floor below, Floor above, boolean isTandem) {
      boolean isAlongX = isTandem == (above.f[0] % 2 != 0);
      for (int u = 0; u < above.count; u++) {
        if (isAlongX != (isTandem == (above.f[u] % 2 != 0))) {
          reason = 'p';
          return;
        }
      }
      below.spread(above, isTandem, isAlongX);
      refuse('b', below.collide());
    }
  }

  /** How dancers turned, and which hands they took, since all were put home. */
  private static final class Flow {
    final int[] lastTurns = new int[DANCERS];
    // The last number other than 0.
    final int[] flowing = new int[DANCERS];
    final int[] hands = new int[DANCERS];
    int breaks = 0;
    int clashCount = 0;

    void clear() {
      for (int i = 0; i < DANCERS; i++) {
        lastTurns[i] = 0;
        flowing[i] = 0;
        hands[i] = NO_PAIR;
      }
      breaks = 0;
      clashCount = 0;
    }

    void count(Floor floor) {
      for (int i = 0; i < DANCERS; i++) {
        int turns = floor.turns[i];
        lastTurns[i] = turns;
        if (turns != 0) {
          breaks += (turns > 0 && flowing[i] < 0) || (turns < 0 && flowing[i] > 0) ? 1 : 0;
          flowing[i] = turns;
        }
        if (floor.firstHand[i] != NO_PAIR) {
          clashCount += floor.firstHand[i] == hands[i] ? 1 : 0;
          hands[i] = floor.lastHand[i];
        }
      }
    }
  }

  /** What was tried, and why the last could not be. */
  private static final class Tally {
    int tried = 0;
    int danced = 0;
    char reason = '-';
    int culprit = -1;
  }

  /** The figure of a singing call, and the beats of all calls. */
  private static final class Song {
    int figure = 0;
    int done = 0;
    int rightsGone = 0;
    long doneInAll = 0;

    void begin(int length) {
      figure = length;
      done = 0;
    }

    void count(int number) {
      doneInAll += number;
      done += figure == 0 ? 0 : number;
    }
  }

  /** The couples of a hall, who fill sets of four for each tip. */
  private static final class Party {
    static final int MOST_COUPLES = 16;
    static final int MOST_TIPS = 30;
    final int[][] sets = new int[MOST_TIPS][MOST_COUPLES];
    final int[][] meetings = new int[MOST_COUPLES][MOST_COUPLES];
    final int[] tipsDanced = new int[MOST_COUPLES];
    int couples = 0;
    int tips = 0;

    void open(int number) {
      couples = number;
      tips = 0;
      for (int i = 0; i < MOST_COUPLES; i++) {
        tipsDanced[i] = 0;
        for (int j = 0; j < MOST_COUPLES; j++) {
          meetings[i][j] = 0;
        }
      }
    }

    /** Fills the sets of a tip; how many couples sit out. */
    int fillTip() {
      int[] sitting = sets[tips];
      for (int i = 0; i < MOST_COUPLES; i++) {
        sitting[i] = -1;
      }
      int setCount = couples / 4;
      for (int set = 0; set < setCount; set++) {
        for (int k = 0; k < 4; k++) {
          int chosen = choose(sitting, set);
          if (chosen >= 0) {
            meet(sitting, set, chosen);
          }
        }
      }
      tips++;
      return couples - 4 * setCount;
    }

    private int choose(int[] sitting, int set) {
      int best = -1;
      int bestMet = 0;
      for (int i = 0; i < couples; i++) {
        if (sitting[i] < 0) {
          int metThere = countMet(sitting, set, i);
          if (best < 0 || metThere < bestMet || (metThere == bestMet && tipsDanced[i] < tipsDanced[best])) {
            best = i;
            bestMet = metThere;
          }
        }
      }
      return best;
    }

    private int countMet(int[] sitting, int set, int couple) {
      int sum = 0;
      for (int i = 0; i < couples; i++) {
        sum += sitting[i] == set ? meetings[couple][i] : 0;
      }
      return sum;
    }

    private void meet(int[] sitting, int set, int couple) {
      for (int i = 0; i < couples; i++) {
        if (sitting[i] == set) {
          meetings[couple][i]++;
          meetings[i][couple]++;
        }
      }
      sitting[couple] = set;
      tipsDanced[couple]++;
    }

    /** Whether all met as often as they were in one set. */
    boolean isCounted() {
      for (int i = 0; i < couples; i++) {
        for (int j = 0; j < couples; j++) {
          int together = 0;
          for (int t = 0; t < tips; t++) {
            together += sets[t][i] >= 0 && sets[t][i] == sets[t][j] ? 1 : 0;
          }
          if (i != j && together != meetings[i][j]) {
            return false;
          }
        }
      }
      return true;
    }
  }
}
