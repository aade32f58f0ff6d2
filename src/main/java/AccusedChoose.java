/**
 * A night's deeds and the people who are accused of them: by a morning each owns to one deed, one
 * behind the other, and takes the months that go with it. README.md tells how to use it.
 */
public final class AccusedChoose {
  private static final int ROOM = 7;
  private static final int SETS = 128;
  private static final int WITHOUT = 60;
  private static final int NONE = -9;
  private static final int DID_NONE = 7;
  private static final int FAR = 1000000;
  private static final int FEW_PEOPLE = 5;
  private static final int MOST_ORDERS = 120;
  private static final int ROW_ROOM = 12;

  private static final int NOBODY = -1;
  private static final int OTHER = -2;
  private static final int STATE = -3;
  private static final int BELOW = -4;
  private static final int NO_ROOM = -6;

  private static final int KINDS = 6;
  private static final int THEFT = 1;
  private static final int LIGHT = 2;
  private static final int GRAVE = 3;
  private static final int FOG = 4;
  private static final int FORGERY = 5;

  private final Night now = new Night();
  private final Night image = new Night();
  private final Night trial = new Night();
  private final Past past = new Past();
  private final Letters letters = new Letters();
  private final Prices prices = new Prices();
  private final Prices trialPrices = new Prices();
  private final Morning today = new Morning();
  private final Morning other = new Morning();
  private final LastBack lastBack = new LastBack();
  private final Table table = new Table();
  private final Orders orders = new Orders();
  private final int[] line = new int[ROOM];
  private final int[] ways = new int[SETS];
  private final int[] told = new int[ROW_ROOM];
  private final int[] refused = new int[ROOM];
  private int toldCount;
  private boolean imaged;

  public AccusedChoose() {
  }

  // ---- I: what there is

  public int feed(int letter) {
    if (letter < 0) {
      return refuse(BELOW);
    }
    if (letter > 255 || letters.isFull()) {
      return refuse(NO_ROOM);
    }
    return letters.add(letter);
  }

  public int night() {
    trial.copy(now);
    int answer = letters.tell(trial);
    letters.drop();
    if (answer > 0) {
      now.copy(trial);
      past.forget();
    }
    return answer;
  }

  public int deed(int deed, int what) {
    if (!now.hasDeed(deed)) {
      return refuse(NOBODY);
    }
    switch (what) {
      case 0: return at(now.kind, deed);
      case 1: return at(now.figure, deed);
      default: return refuse(OTHER);
    }
  }

  public int person(int person, int what) {
    if (!now.hasPerson(person)) {
      return refuse(NOBODY);
    }
    switch (what) {
      case 0: return at(now.records, person);
      case 1: return at(now.could, person);
      case 2: return at(now.did, person);
      case 3: return at(now.brother, person);
      case 4: return now.placeOf(person);
      case 5: return at(now.alibis, person);
      case 6: return now.mayBits(person);
      default: return refuse(OTHER);
    }
  }

  public int months(int person, int deed) {
    if (!now.hasPerson(person) || !now.hasDeed(deed)) {
      return refuse(NOBODY);
    }
    return now.monthsFor(person, deed);
  }

  public int addDeed(int kind, int figure) {
    if (kind < 0 || kind >= KINDS) {
      return refuse(OTHER);
    }
    if (figure < 0) {
      return refuse(BELOW);
    }
    if (figure > 9 || now.deeds >= ROOM) {
      return refuse(NO_ROOM);
    }
    past.forget();
    return now.putDeed(kind, figure);
  }

  public int addPerson(int record, int could, int did) {
    if (record < 0 || could < 0 || did < 0) {
      return refuse(BELOW);
    }
    if (record > 9 || could >= SETS || did > DID_NONE || now.people >= ROOM) {
      return refuse(NO_ROOM);
    }
    past.forget();
    return now.putPerson(record, could, did);
  }

  public int change(int one, int other) {
    if (!now.hasTwo(one, other)) {
      return refuse(NOBODY);
    }
    past.add(Past.CHANGE, one, other, NONE, NONE);
    swapPlaces(now.order, now.people, one, other);
    return now.placeOf(one);
  }

  public int alibi(int person, int deed) {
    if (!now.hasPerson(person) || !now.hasDeed(deed)) {
      return refuse(NOBODY);
    }
    past.add(Past.ALIBI, person, deed, NONE, NONE);
    now.turnAlibi(person, deed);
    return has(at(now.alibis, person), deed) ? 1 : 0;
  }

  public int brothers(int one, int other) {
    if (!now.hasTwo(one, other)) {
      return refuse(NOBODY);
    }
    int had = at(now.brother, one);
    past.add(Past.BROTHERS, one, other, had, at(now.brother, other));
    now.pair(one, other);
    return had;
  }

  public int back() {
    if (past.count <= 0) {
      return refuse(STATE);
    }
    past.takeBack(now);
    return past.count;
  }

  // ---- II: mornings and choosings

  public int takes(int person, int what) {
    if (!now.hasPerson(person)) {
      return refuse(NOBODY);
    }
    if (what < 0 || what > 1) {
      return refuse(OTHER);
    }
    holdToday();
    return at(what == 0 ? today.taken : today.months, person);
  }

  public int morning(int what) {
    holdToday();
    switch (what) {
      case 0: return today.without;
      case 1: return today.all;
      case 2: return today.left;
      default: return refuse(OTHER);
    }
  }

  public int least(int person) {
    if (person != -1 && !now.hasPerson(person)) {
      return refuse(NOBODY);
    }
    prices.fill(now);
    table.fillLeast(prices);
    return person == -1 ? table.get(0, 0) : table.leastDeed(prices, person);
  }

  public int fromLast(int person, int what) {
    if (!now.hasPerson(person)) {
      return refuse(NOBODY);
    }
    if (what < 0 || what > 1) {
      return refuse(OTHER);
    }
    prices.fill(now);
    lastBack.hold(prices, now);
    return at(what == 0 ? lastBack.taken : lastBack.months, person);
  }

  public int allFromLast() {
    prices.fill(now);
    lastBack.hold(prices, now);
    return lastBack.all;
  }

  public long whose(int person, int deed) {
    boolean all = person == -1 && deed == -1;
    if (!all && (!now.hasPerson(person) || !now.hasDeed(deed))) {
      return refuseLong(NOBODY);
    }
    return countWays(person, deed);
  }

  public int rule(int rule, int what) {
    if (rule < 0 || rule > 4 || what < 0 || what > 1) {
      return refuse(OTHER);
    }
    prices.fill(now);
    holdRule(rule);
    return what == 0 ? other.all : unfairTwo(other);
  }

  public int bestRule() {
    int best = 0;
    int fewest = FAR;
    prices.fill(now);
    for (int rule = 0; rule <= 4; rule++) {
      holdRule(rule);
      if (other.all < fewest) {
        fewest = other.all;
        best = rule;
      }
    }
    return best;
  }

  public int placeWorth(int person) {
    if (!now.hasPerson(person)) {
      return refuseBig(NOBODY);
    }
    prices.fill(now);
    return monthsAt(person, person, now.people - 1) - monthsAt(person, person, 0);
  }

  public int changes() {
    holdToday();
    for (int one = 0; one < now.people; one++) {
      for (int two = one + 1; two < now.people; two++) {
        holdChanged(one, two);
        int oneGains = at(today.months, one) - at(other.months, one);
        int twoGains = at(today.months, two) - at(other.months, two);
        if (oneGains >= 0 && twoGains >= 0 && oneGains + twoGains > 0) {
          return 10 * one + two;
        }
      }
    }
    return NONE;
  }

  public int bestOrder(int i) {
    return soughtOrder(i, false);
  }

  public int putIn(int figure, int what) {
    if (figure < 0) {
      return refuse(BELOW);
    }
    if (figure > 9) {
      return refuse(NO_ROOM);
    }
    if (what < 0 || what > 1) {
      return refuse(OTHER);
    }
    trial.copy(now);
    trial.forgetLaterDids();
    int all = tried();
    int put = 0;
    while (other.without != NONE && put < ROOM) {
      trial.putDeed(FORGERY, figure);
      put++;
      all = tried();
    }
    return what == 0 ? put : all;
  }

  public int together(int set, int what) {
    if (set < 0) {
      return refuse(BELOW);
    }
    if (set >= bit(now.people)) {
      return refuse(NO_ROOM);
    }
    if (what < 0 || what > 1) {
      return refuse(OTHER);
    }
    prices.fill(now);
    table.fillTogether(prices, now.order, set);
    int fewest = table.get(0, 0);
    return what == 0 ? fewest : todaysMonthsOf(set) - fewest;
  }

  public int alibiWorth(int person, int deed) {
    if (!now.hasPerson(person) || !now.hasDeed(deed)) {
      return refuseBig(NOBODY);
    }
    trial.copy(now);
    trial.turnAlibi(person, deed);
    holdToday();
    return tried() - today.all;
  }

  public int givenAway() {
    holdToday();
    int fewest = today.all;
    int best = NONE;
    for (int person = 0; person < now.people; person++) {
      for (int deed = 0; deed < now.deeds; deed++) {
        if (has(at(now.alibis, person), deed)) {
          trial.copy(now);
          trial.turnAlibi(person, deed);
          if (tried() < fewest) {
            fewest = other.all;
            best = 10 * person + deed;
          }
        }
      }
    }
    return best;
  }

  public long caught(int t, int k, int part) {
    if (t < 2 || k < 0) {
      return refuseLong(BELOW);
    }
    if (t > 20 || k > 7) {
      return refuseLong(NO_ROOM);
    }
    if (part < 0 || part > 1) {
      return refuseLong(OTHER);
    }
    holdToday();
    int untrue = today.owners(now, false);
    long above = waysToBeCaught(untrue, k, t);
    long below = power(t, untrue);
    long common = commonDivisor(above, below);
    if (common <= 0) {
      return 0;
    }
    return (part == 0 ? above : below) / common;
  }

  // ---- III

  public int spared() {
    holdToday();
    int bits = 0;
    for (int deed = 0; deed < now.deeds; deed++) {
      other.hold(prices, now.order, now.allDeeds() & ~bit(deed));
      if (other.all == today.all) {
        bits |= bit(deed);
      }
    }
    return bits;
  }

  public int keeper() {
    holdToday();
    int fewest = FAR;
    int best = NONE;
    for (int person = 0; person < now.people; person++) {
      int brother = at(now.brother, person);
      if (now.hasPerson(brother)) {
        int left = monthsAt(brother, person, now.people - 1);
        if (left < at(today.months, brother) && left < fewest) {
          fewest = left;
          best = person;
        }
      }
    }
    return best;
  }

  public int swaps(int what) {
    if (what < 0 || what > 1) {
      return refuse(OTHER);
    }
    prices.fill(now);
    lastBack.hold(prices, now);
    int two = firstSwap();
    if (what == 0) {
      return two;
    }
    return two == NONE ? 1 : 0;
  }

  public int heavier(int person, int deed) {
    if (!now.hasPerson(person) || !now.hasDeed(deed)) {
      return refuse(NOBODY);
    }
    trial.copy(now);
    for (int figure = 9; figure >= 0; figure--) {
      put(trial.figure, deed, figure);
      tried();
      if (at(other.taken, person) == deed) {
        return figure;
      }
    }
    return NONE;
  }

  public int bestDid(int person) {
    if (!now.hasPerson(person)) {
      return refuse(NOBODY);
    }
    int fewest = FAR;
    int best = DID_NONE;
    trial.copy(now);
    for (int did = 0; did <= DID_NONE; did++) {
      if (did == DID_NONE || now.may(person, did)) {
        put(trial.did, person, did);
        tried();
        if (at(other.months, person) < fewest) {
          fewest = at(other.months, person);
          best = did;
        }
      }
    }
    return best;
  }

  public int rest(int what) {
    if (what < 0 || what > 2) {
      return refuse(OTHER);
    }
    int mornings = 0;
    int sum = 0;
    int left = now.allDeeds();
    prices.fill(now);
    for (int i = 0; i <= ROOM; i++) {
      other.hold(prices, now.order, left);
      if (other.left == left) {
        break;
      }
      mornings++;
      sum += other.monthsTaken();
      left = other.left;
    }
    switch (what) {
      case 0: return mornings;
      case 1: return sum;
      default: return left;
    }
  }

  public int even(int i) {
    return soughtOrder(i, true);
  }

  public int lastWord(int person) {
    if (!now.hasPerson(person)) {
      return refuse(NOBODY);
    }
    prices.fill(now);
    int asItIs = monthsAt(person, person, now.people - 1);
    turnRound();
    moveInLine(person, now.people - 1);
    holdLine();
    return Math.min(asItIs, at(other.months, person));
  }

  // ---- IV

  public int bribe(int what) {
    if (what < 0 || what > 1) {
      return refuse(OTHER);
    }
    holdToday();
    int fewest = FAR;
    int best = NONE;
    int less = NONE;
    for (int one = 0; one < now.people; one++) {
      for (int two = one + 1; two < now.people; two++) {
        holdChanged(one, two);
        int before = at(today.months, one) + at(today.months, two);
        int after = at(other.months, one) + at(other.months, two);
        if (after < before && after < fewest) {
          fewest = after;
          best = 10 * one + two;
          less = before - after;
        }
      }
    }
    return what == 0 ? best : less;
  }

  public int latest(int person, int what) {
    if (!now.hasPerson(person)) {
      return refuse(NOBODY);
    }
    if (what < 0 || what > 1) {
      return refuse(OTHER);
    }
    prices.fill(now);
    int first = monthsAt(person, person, 0);
    int latest = 0;
    int worst = first;
    for (int place = 1; place < now.people; place++) {
      int months = monthsAt(person, person, place);
      if (months <= first) {
        latest = place;
      }
      worst = Math.max(worst, months);
    }
    return what == 0 ? latest : worst;
  }

  public int truth(int what) {
    if (what < 0 || what > 1) {
      return refuse(OTHER);
    }
    prices.fill(now);
    other.holdTrue(prices, now);
    return what == 0 ? other.all : other.owners(now, true);
  }

  public int parole() {
    holdToday();
    int fewest = today.all;
    int best = NONE;
    for (int person = 0; person < now.people; person++) {
      trial.copy(now);
      put(trial.records, person, 0);
      if (tried() < fewest) {
        fewest = other.all;
        best = person;
      }
    }
    return best;
  }

  public int newBrothers() {
    prices.fill(now);
    lastBack.hold(prices, now);
    int fewest = lastBack.all;
    int best = NONE;
    for (int one = 0; one < now.people; one++) {
      for (int two = one + 1; two < now.people; two++) {
        trial.copy(now);
        trial.pair(one, two);
        lastBack.hold(prices, trial);
        if (lastBack.all < fewest) {
          fewest = lastBack.all;
          best = 10 * one + two;
        }
      }
    }
    return best;
  }

  public int madeLight() {
    holdToday();
    int fewest = today.all;
    int best = NONE;
    for (int deed = 0; deed < now.deeds; deed++) {
      trial.copy(now);
      put(trial.kind, deed, LIGHT);
      if (tried() < fewest) {
        fewest = other.all;
        best = deed;
      }
    }
    return best;
  }

  public int always() {
    int all = now.allDeeds();
    holdToday();
    int bits = all & ~today.left;
    turnRound();
    holdLine();
    bits &= ~other.left;
    lineUp(now.order);
    moveInLine(at(now.order, 0), now.people - 1);
    holdLine();
    return bits & ~other.left;
  }

  // ---- the ROW, LOTS, THE IMAGE

  public int row(int v) {
    if (v < 0) {
      return refuse(BELOW);
    }
    if (v > 9 || toldCount >= ROW_ROOM) {
      return refuse(NO_ROOM);
    }
    put(told, toldCount, v);
    toldCount++;
    return toldCount;
  }

  public int judge() {
    holdToday();
    int answer = firstNotSo(today);
    toldCount = 0;
    return answer;
  }

  public int fits(int i) {
    if (now.people > FEW_PEOPLE) {
      return refuse(STATE);
    }
    if (i < -1) {
      return refuse(BELOW);
    }
    int count = 0;
    prices.fill(now);
    orders.begin(now.people);
    for (int n = 0; n < MOST_ORDERS; n++) {
      other.hold(prices, orders.order, now.allDeeds());
      if (firstNotSo(other) == NONE) {
        if (count == 0) {
          orders.keep();
        }
        count++;
      }
      if (!orders.step()) {
        break;
      }
    }
    return i == -1 ? count : orders.keptAt(i);
  }

  public int clear() {
    int had = toldCount;
    toldCount = 0;
    return had;
  }

  public int lots(int n, int z, int what) {
    if (n < 1) {
      return refuse(BELOW);
    }
    if (n > 20) {
      return refuse(NO_ROOM);
    }
    if (what < 0 || what > 1) {
      return refuse(OTHER);
    }
    int seed = z;
    int sum = 0;
    int full = 0;
    trial.copy(now);
    for (int i = 0; i < n; i++) {
      for (int person = 0; person < trial.people; person++) {
        seed = seed * 1103515245 + 12345;
        put(trial.could, person, (seed & 0x7fffffff) / 65536 % SETS);
      }
      sum += tried();
      if (other.without == NONE) {
        full++;
      }
    }
    return what == 0 ? sum : full;
  }

  public int image() {
    image.copy(now);
    imaged = true;
    return now.people;
  }

  public int restore() {
    if (!imaged) {
      return refuse(STATE);
    }
    now.copy(image);
    past.forget();
    return now.people;
  }

  public int count(int what) {
    switch (what) {
      case 0: return now.people;
      case 1: return now.deeds;
      case 2: return now.allRecords();
      case 3: return now.allAlibis();
      case 4: return letters.count;
      case 5: return toldCount;
      case 6: return past.count;
      default: return what >= 11 && what <= 16 ? at(refused, what - 10) : NONE;
    }
  }

  // ---- refusals

  private int refuse(int number) {
    put(refused, -number, at(refused, -number) + 1);
    return number;
  }

  private int refuseBig(int number) {
    return 1000000000 - refuse(number);
  }

  private long refuseLong(int number) {
    return 4000000000000000000L - refuse(number);
  }

  // ---- mornings with something otherwise

  private void holdToday() {
    prices.fill(now);
    today.hold(prices, now.order, now.allDeeds());
  }

  private void holdLine() {
    other.hold(prices, line, now.allDeeds());
  }

  /** All MONTHS by a MORNING of the trial night; the MORNING stays in other. */
  private int tried() {
    trialPrices.fill(trial);
    other.hold(trialPrices, trial.order, trial.allDeeds());
    return other.all;
  }

  private void holdChanged(int one, int two) {
    lineUp(now.order);
    swapPlaces(line, now.people, one, two);
    holdLine();
  }

  /** The MONTHS of whom, if mover stood at a place, the others as they are in ORDER. */
  private int monthsAt(int whom, int mover, int place) {
    lineUp(now.order);
    moveInLine(mover, place);
    holdLine();
    return at(other.months, whom);
  }

  private int todaysMonthsOf(int set) {
    holdToday();
    int sum = 0;
    for (int person = 0; person < now.people; person++) {
      if (has(set, person)) {
        sum += at(today.months, person);
      }
    }
    return sum;
  }

  // ---- the line: an ORDER to be tried

  private void lineUp(int[] order) {
    for (int i = 0; i < line.length; i++) {
      line[i] = at(order, i);
    }
  }

  private void turnRound() {
    for (int i = 0; i < now.people; i++) {
      put(line, i, at(now.order, now.people - 1 - i));
    }
  }

  private void moveInLine(int mover, int place) {
    int from = placeIn(line, now.people, mover);
    int step = from < place ? 1 : -1;
    for (int i = 0; i < ROOM && from >= 0 && from != place; i++) {
      put(line, from, at(line, from + step));
      from += step;
    }
    put(line, place, mover);
  }

  // ---- rules

  private void holdRule(int rule) {
    lineUp(now.order);
    if (rule != 0) {
      int place = 0;
      for (int key = -9; key <= 9; key++) {
        for (int person = 0; person < now.people; person++) {
          if (ruleKey(rule, person) == key) {
            put(line, place, person);
            place++;
          }
        }
      }
    }
    holdLine();
  }

  private int ruleKey(int rule, int person) {
    int held = at(now.records, person);
    boolean none = at(now.did, person) == DID_NONE;
    switch (rule) {
      case 1: return held;
      case 2: return -held;
      case 3: return none ? 1 : 0;
      default: return none ? 0 : 1;
    }
  }

  private int unfairTwo(Morning held) {
    for (int one = 0; one < now.people; one++) {
      for (int two = 0; two < now.people; two++) {
        boolean unlike = at(now.did, one) == DID_NONE && at(now.did, two) != DID_NONE;
        if (unlike && at(held.months, one) > at(held.months, two)) {
          return 10 * one + two;
        }
      }
    }
    return NONE;
  }

  // ---- orders sought

  private int soughtOrder(int i, boolean evenly) {
    if (now.people > FEW_PEOPLE) {
      return refuse(STATE);
    }
    if (i < -1) {
      return refuse(BELOW);
    }
    int fewest = FAR;
    prices.fill(now);
    orders.begin(now.people);
    for (int n = 0; n < MOST_ORDERS; n++) {
      other.hold(prices, orders.order, now.allDeeds());
      int score = evenly ? other.most() : other.all;
      if (score < fewest) {
        fewest = score;
        orders.keep();
      }
      if (!orders.step()) {
        break;
      }
    }
    return i == -1 ? fewest : orders.keptAt(i);
  }

  private int firstNotSo(Morning held) {
    for (int i = 0; i < toldCount; i++) {
      int taken = at(held.taken, i);
      int asTold = taken == NONE ? 9 : taken;
      if (i >= now.people || asTold != at(told, i)) {
        return i;
      }
    }
    return NONE;
  }

  // ---- whose deeds, who is caught, who would swap

  /** In how many ways the DEEDS can have been done; with a deed told, only by that person. */
  private int countWays(int person, int deed) {
    int sets = bit(now.people);
    int sum = 0;
    for (int set = 0; set < ways.length; set++) {
      ways[set] = set == 0 ? 1 : 0;
    }
    // The DEEDS are given out by their numbers: as many people have one as DEEDS are given out.
    for (int set = 0; set < sets; set++) {
      int next = Integer.bitCount(set);
      if (next == now.deeds) {
        sum += at(ways, set);
      } else if (next < now.deeds) {
        giveOut(set, next, next == deed ? person : NONE);
      }
    }
    return sum;
  }

  private void giveOut(int set, int deed, int only) {
    for (int person = 0; person < now.people; person++) {
      boolean asked = only == NONE || only == person;
      if (asked && !has(set, person) && now.canHaveDone(person, deed)) {
        int more = set | bit(person);
        put(ways, more, at(ways, more) + at(ways, set));
      }
    }
  }

  private static long waysToBeCaught(int untrue, int k, int t) {
    if (k > untrue) {
      return 0;
    }
    long choices = 1;
    for (int i = 1; i <= k; i++) {
      choices = choices * (untrue - k + i) / i;
    }
    return choices * power(t - 1, untrue - k);
  }

  private static long power(int base, int times) {
    long product = 1;
    for (int i = 0; i < times; i++) {
      product *= base;
    }
    return product;
  }

  private static long commonDivisor(long one, long two) {
    long big = two;
    long small = one;
    // Two steps at least halve the numbers, so that 128 are enough for any longs.
    for (int i = 0; i < 128 && small > 0; i++) {
      long over = big % small;
      big = small;
      small = over;
    }
    return big;
  }

  private int firstSwap() {
    for (int one = 0; one < now.people; one++) {
      for (int two = one + 1; two < now.people; two++) {
        int ones = at(lastBack.taken, one);
        int twos = at(lastBack.taken, two);
        if (now.may(one, twos) && now.may(two, ones)
            && now.monthsFor(one, twos) < now.monthsFor(one, ones)
            && now.monthsFor(two, ones) < now.monthsFor(two, twos)) {
          return 10 * one + two;
        }
      }
    }
    return NONE;
  }

  // ---- rows and bits

  private static int at(int[] row, int i) {
    return i >= 0 && i < row.length ? row[i] : NONE;
  }

  private static void put(int[] row, int i, int value) {
    if (i >= 0 && i < row.length) {
      row[i] = value;
    }
  }

  private static int bit(int i) {
    return i >= 0 && i < 31 ? 1 << i : 0;
  }

  private static boolean has(int bits, int i) {
    return (bits & bit(i)) != 0;
  }

  private static void copyRow(int[] from, int[] to) {
    for (int i = 0; i < to.length; i++) {
      to[i] = at(from, i);
    }
  }

  private static int placeIn(int[] order, int length, int person) {
    for (int place = 0; place < length && place < order.length; place++) {
      if (order[place] == person) {
        return place;
      }
    }
    return NONE;
  }

  private static void swapPlaces(int[] order, int length, int one, int two) {
    int first = placeIn(order, length, one);
    int second = placeIn(order, length, two);
    put(order, first, two);
    put(order, second, one);
  }

  private static int monthsOfKind(int kind, int figure, int held) {
    int deed = 2 * figure + 1;
    int theft = deed + 3 + held / 2;
    int light = deed / 2;
    switch (kind) {
      case THEFT: return theft;
      case LIGHT: return light;
      case GRAVE: return 3 * theft;
      case FOG: return light + 1;
      case FORGERY: return Math.max(1, theft - held);
      default: return deed;
    }
  }

  /** All that there is of part I: DEEDS, PEOPLE, their ORDER, BROTHERS and ALIBIS. */
  static final class Night {
    int deeds;
    int people;
    // Twice the room, for the bench may put in 7 DEEDS more.
    final int[] kind = new int[2 * ROOM];
    final int[] figure = new int[2 * ROOM];
    final int[] records = new int[ROOM];
    final int[] could = new int[ROOM];
    final int[] did = new int[ROOM];
    final int[] brother = new int[ROOM];
    final int[] alibis = new int[ROOM];
    final int[] order = new int[ROOM];

    void copy(Night from) {
      deeds = from.deeds;
      people = from.people;
      copyRow(from.kind, kind);
      copyRow(from.figure, figure);
      copyRow(from.records, records);
      copyRow(from.could, could);
      copyRow(from.did, did);
      copyRow(from.brother, brother);
      copyRow(from.alibis, alibis);
      copyRow(from.order, order);
    }

    boolean hasDeed(int deed) {
      return deed >= 0 && deed < deeds;
    }

    boolean hasPerson(int person) {
      return person >= 0 && person < people;
    }

    boolean hasTwo(int one, int two) {
      return hasPerson(one) && hasPerson(two) && one != two;
    }

    int putDeed(int newKind, int newFigure) {
      int number = deeds;
      put(kind, number, newKind);
      put(figure, number, newFigure);
      deeds = Math.min(number + 1, kind.length);
      return number;
    }

    int putPerson(int newRecord, int newCould, int newDid) {
      int number = people;
      put(records, number, newRecord);
      put(could, number, newCould);
      put(did, number, newDid);
      put(brother, number, NONE);
      put(alibis, number, 0);
      put(order, number, number);
      people = Math.min(number + 1, ROOM);
      return number;
    }

    int placeOf(int person) {
      return placeIn(order, people, person);
    }

    void turnAlibi(int person, int deed) {
      put(alibis, person, at(alibis, person) ^ bit(deed));
    }

    void pair(int one, int two) {
      put(brother, at(brother, one), NONE);
      put(brother, at(brother, two), NONE);
      put(brother, one, two);
      put(brother, two, one);
    }

    /** The two are paired: each gets the BROTHER back whom he had before that. */
    void unpair(int one, int two, int oneHad, int twoHad) {
      put(brother, one, oneHad);
      put(brother, two, twoHad);
      put(brother, oneHad, one);
      put(brother, twoHad, two);
    }

    int allDeeds() {
      return bit(deeds) - 1;
    }

    boolean may(int person, int deed) {
      if (!hasPerson(person) || !hasDeed(deed) || has(at(alibis, person), deed)) {
        return false;
      }
      return at(kind, deed) == FORGERY || has(at(could, person), deed);
    }

    int mayBits(int person) {
      int bits = 0;
      for (int deed = 0; deed < deeds; deed++) {
        if (may(person, deed)) {
          bits |= bit(deed);
        }
      }
      return bits;
    }

    boolean canHaveDone(int person, int deed) {
      int his = at(did, person);
      return may(person, deed) && his != DID_NONE && (!hasDeed(his) || his == deed);
    }

    /** MONTHS for one and a DEED, or WITHOUT any. */
    int monthsFor(int person, int deed) {
      if (!hasDeed(deed)) {
        return WITHOUT;
      }
      int full = monthsOfKind(at(kind, deed), at(figure, deed), at(records, person));
      // A DID of 7 is none, also where the bench has put in a DEED 7.
      boolean hisOwn = deed != DID_NONE && at(did, person) == deed;
      return hisOwn ? full - full / 3 : full;
    }

    /** Nobody DID what is put in behind all DEEDS. */
    void forgetLaterDids() {
      for (int person = 0; person < people; person++) {
        if (!hasDeed(at(did, person))) {
          put(did, person, DID_NONE);
        }
      }
    }

    int allRecords() {
      int sum = 0;
      for (int person = 0; person < people; person++) {
        sum += at(records, person);
      }
      return sum;
    }

    int allAlibis() {
      int sum = 0;
      for (int person = 0; person < people; person++) {
        sum += Integer.bitCount(at(alibis, person));
      }
      return sum;
    }
  }

  /** MONTHS of a night, reckoned once for many choosings. */
  static final class Prices {
    int people;
    int deeds;
    // For each of the PEOPLE a line of DEEDS; FAR where he may not.
    final int[] cells = new int[ROOM * 2 * ROOM];

    void fill(Night night) {
      people = night.people;
      deeds = night.deeds;
      for (int person = 0; person < people; person++) {
        for (int deed = 0; deed < deeds; deed++) {
          int months = night.may(person, deed) ? night.monthsFor(person, deed) : FAR;
          put(cells, person * 2 * ROOM + deed, months);
        }
      }
    }

    boolean allows(int person, int deed) {
      return isThere(person, deed) && of(person, deed) < FAR;
    }

    /** MONTHS for one and a DEED that he may own to, or WITHOUT any. */
    int of(int person, int deed) {
      return isThere(person, deed) ? at(cells, person * 2 * ROOM + deed) : WITHOUT;
    }

    private boolean isThere(int person, int deed) {
      return person >= 0 && person < people && deed >= 0 && deed < deeds;
    }

    /** Of the free DEEDS that with the fewest MONTHS for one, or NONE. */
    int lightest(int person, int free) {
      int best = NONE;
      int fewest = FAR;
      for (int deed = 0; deed < deeds; deed++) {
        if ((free & bit(deed)) != 0) {
          int months = of(person, deed);
          if (months < fewest) {
            fewest = months;
            best = deed;
          }
        }
      }
      return best;
    }
  }

  /** What change(), alibi() and brothers() did, so that it can be TAKEN BACK. */
  static final class Past {
    static final int CHANGE = 0;
    static final int ALIBI = 1;
    static final int BROTHERS = 2;
    static final int MOST = 8;
    int count;
    final int[] sort = new int[MOST];
    final int[] one = new int[MOST];
    final int[] two = new int[MOST];
    final int[] oneHad = new int[MOST];
    final int[] twoHad = new int[MOST];

    void add(int newSort, int newOne, int newTwo, int newOneHad, int newTwoHad) {
      if (count >= MOST) {
        dropOldest();
      }
      put(sort, count, newSort);
      put(one, count, newOne);
      put(two, count, newTwo);
      put(oneHad, count, newOneHad);
      put(twoHad, count, newTwoHad);
      count++;
    }

    void forget() {
      count = 0;
    }

    void takeBack(Night night) {
      if (count <= 0) {
        return;
      }
      count--;
      int first = at(one, count);
      int second = at(two, count);
      switch (at(sort, count)) {
        case CHANGE:
          swapPlaces(night.order, night.people, first, second);
          break;
        case ALIBI:
          night.turnAlibi(first, second);
          break;
        default:
          night.unpair(first, second, at(oneHad, count), at(twoHad, count));
          break;
      }
    }

    private void dropOldest() {
      shift(sort);
      shift(one);
      shift(two);
      shift(oneHad);
      shift(twoHad);
      count--;
    }

    private static void shift(int[] row) {
      for (int i = 1; i < row.length; i++) {
        row[i - 1] = row[i];
      }
    }
  }

  /** The letters in which a NIGHT is told. */
  static final class Letters {
    static final int MOST = 96;
    static final int BEGIN = -1;
    int count;
    final int[] text = new int[MOST];

    boolean isFull() {
      return count >= MOST;
    }

    int add(int letter) {
      put(text, count, letter);
      count = Math.min(count + 1, MOST);
      return count;
    }

    void drop() {
      count = 0;
    }

    /** Tells all to the night: how many STATEMENTS, or the FAULT. */
    int tell(Night night) {
      int wrong = placeOfWrongLetter();
      if (wrong >= 0) {
        return -1000 - wrong;
      }
      int statements = 0;
      for (int place = 0; place < count; place += digitsOf(at(text, place)) + 2) {
        if (!state(night, place)) {
          return -2000 - place;
        }
        statements++;
      }
      return statements;
    }

    /** The first letter with which no NIGHT can go on; the end, if something lacks; NONE. */
    private int placeOfWrongLetter() {
      int digits = BEGIN;
      for (int place = 0; place < count; place++) {
        int letter = at(text, place);
        if (digits == BEGIN) {
          digits = digitsOf(letter);
          if (digits == 0) {
            return place;
          }
        } else if (digits > 0) {
          if (letter < '0' || letter > '9') {
            return place;
          }
          digits--;
        } else {
          if (letter != ';') {
            return place;
          }
          digits = BEGIN;
        }
      }
      return digits == BEGIN && count > 0 ? NONE : count;
    }

    private static int digitsOf(int letter) {
      switch (letter) {
        case 'd': case 'b': case 'a': case 'x': return 2;
        case 'p': return 5;
        default: return 0;
      }
    }

    private int digit(int place) {
      return at(text, place) - '0';
    }

    /** Does a STATEMENT, if it is as it must be. */
    private boolean state(Night night, int place) {
      int first = digit(place + 1);
      int second = digit(place + 2);
      switch (at(text, place)) {
        case 'd': return stateDeed(night, first, second);
        case 'p': return statePerson(night, place);
        case 'b':
          if (!night.hasTwo(first, second)) {
            return false;
          }
          night.pair(first, second);
          return true;
        case 'a':
          if (!night.hasPerson(first) || !night.hasDeed(second)) {
            return false;
          }
          night.turnAlibi(first, second);
          return true;
        default:
          if (!night.hasTwo(first, second)) {
            return false;
          }
          swapPlaces(night.order, night.people, first, second);
          return true;
      }
    }

    private boolean stateDeed(Night night, int kind, int figure) {
      if (kind >= KINDS || night.deeds >= ROOM) {
        return false;
      }
      night.putDeed(kind, figure);
      return true;
    }

    private boolean statePerson(Night night, int place) {
      int could = 100 * digit(place + 2) + 10 * digit(place + 3) + digit(place + 4);
      int did = digit(place + 5);
      if (could >= SETS || did > DID_NONE || night.people >= ROOM) {
        return false;
      }
      night.putPerson(digit(place + 1), could, did);
      return true;
    }
  }

  /** A MORNING: what each takes, one behind the other. */
  static final class Morning {
    final int[] taken = new int[ROOM];
    final int[] months = new int[ROOM];
    int people;
    int left;
    int all;
    int without;

    void hold(Prices prices, int[] order, int there) {
      begin(prices.people, there);
      for (int place = 0; place < people; place++) {
        int person = at(order, place);
        seat(prices, person, prices.lightest(person, left));
      }
    }

    /** As hold, but each takes the DEED he DID, if he can. */
    void holdTrue(Prices prices, Night night) {
      begin(prices.people, night.allDeeds());
      for (int place = 0; place < people; place++) {
        int person = at(night.order, place);
        int his = at(night.did, person);
        boolean owns = has(left, his) && night.may(person, his);
        seat(prices, person, owns ? his : prices.lightest(person, left));
      }
    }

    private void begin(int howMany, int there) {
      people = howMany;
      left = there;
      all = 0;
      without = NONE;
    }

    private void seat(Prices prices, int person, int deed) {
      int his = prices.of(person, deed);
      put(taken, person, deed);
      put(months, person, his);
      left &= ~bit(deed);
      all += his;
      if (deed == NONE && without == NONE) {
        without = person;
      }
    }

    int most() {
      int most = 0;
      for (int person = 0; person < people; person++) {
        most = Math.max(most, at(months, person));
      }
      return most;
    }

    int monthsTaken() {
      int sum = 0;
      for (int person = 0; person < people; person++) {
        if (at(taken, person) != NONE) {
          sum += at(months, person);
        }
      }
      return sum;
    }

    /** How many own to a DEED that they DID; or, if not truly, to one that they did not. */
    int owners(Night night, boolean truly) {
      int sum = 0;
      for (int person = 0; person < people; person++) {
        int deed = at(taken, person);
        if (deed != NONE && (deed == at(night.did, person)) == truly) {
          sum++;
        }
      }
      return sum;
    }
  }

  /** A choosing FROM THE LAST BACK. */
  static final class LastBack {
    final int[] taken = new int[ROOM];
    final int[] months = new int[ROOM];
    int all;

    void hold(Prices prices, Night night) {
      int free = night.allDeeds();
      all = 0;
      for (int place = 0; place < night.people; place++) {
        int person = at(night.order, place);
        int deed = choice(prices, night, place, free);
        int his = prices.of(person, deed);
        put(taken, person, deed);
        put(months, person, his);
        free &= ~bit(deed);
        all += his;
      }
    }

    /** What the one at a place takes. It ends: it asks only for those at later places. */
    private static int choice(Prices prices, Night night, int place, int free) {
      int person = at(night.order, place);
      int brother = at(night.brother, person);
      // The MONTHS of a BROTHER ahead of him are the same whatever he takes.
      if (night.placeOf(brother) <= place) {
        return prices.lightest(person, free);
      }
      int best = NONE;
      int fewest = FAR;
      for (int deed = 0; deed < prices.deeds; deed++) {
        if (has(free, deed) && prices.allows(person, deed)) {
          int his = monthsBehind(prices, night, place + 1, free & ~bit(deed), brother);
          int both = prices.of(person, deed) + his;
          if (both < fewest) {
            fewest = both;
            best = deed;
          }
        }
      }
      return best;
    }

    private static int monthsBehind(Prices prices, Night night, int from, int free, int brother) {
      int left = free;
      for (int place = from; place < night.people; place++) {
        int deed = choice(prices, night, place, left);
        if (at(night.order, place) == brother) {
          return prices.of(brother, deed);
        }
        left &= ~bit(deed);
      }
      return WITHOUT;
    }
  }

  /** For each step of a choosing and each set of DEEDS taken: the fewest MONTHS from there on. */
  static final class Table {
    final int[] cells = new int[(ROOM + 1) * SETS];

    int get(int step, int set) {
      return at(cells, step * SETS + set);
    }

    void set(int step, int set, int months) {
      put(cells, step * SETS + set, months);
    }

    /** LEAST: the steps are PEOPLE by their numbers. */
    void fillLeast(Prices prices) {
      closeAt(prices.people);
      for (int person = prices.people - 1; person >= 0; person--) {
        for (int set = 0; set < bit(prices.deeds); set++) {
          if (canBe(set, person)) {
            set(person, set, leastFrom(prices, person, set));
          }
        }
      }
    }

    private int leastFrom(Prices prices, int person, int taken) {
      int fewest = WITHOUT + get(person + 1, taken);
      for (int deed = 0; deed < prices.deeds; deed++) {
        if (!has(taken, deed) && prices.allows(person, deed)) {
          fewest = Math.min(fewest, monthsWith(prices, person, person, deed, taken));
        }
      }
      return fewest;
    }

    /** What a person takes in the first of the ways that fillLeast found. */
    int leastDeed(Prices prices, int person) {
      int taken = 0;
      int deed = NONE;
      for (int step = 0; step <= person; step++) {
        deed = leastStep(prices, step, taken);
        taken |= bit(deed);
      }
      return deed;
    }

    private int leastStep(Prices prices, int person, int taken) {
      int fewest = get(person, taken);
      for (int deed = 0; deed < prices.deeds; deed++) {
        if (!has(taken, deed) && prices.allows(person, deed)
            && monthsWith(prices, person, person, deed, taken) == fewest) {
          return deed;
        }
      }
      return NONE;
    }

    /** TOGETHER: the steps are the places in ORDER; only MONTHS of the people told count. */
    void fillTogether(Prices prices, int[] order, int people) {
      closeAt(prices.people);
      for (int place = prices.people - 1; place >= 0; place--) {
        int person = at(order, place);
        boolean counts = has(people, person);
        for (int set = 0; set < bit(prices.deeds); set++) {
          if (canBe(set, place)) {
            set(place, set, counts
                ? chosen(prices, place, person, set) : passed(prices, place, person, set));
          }
        }
      }
    }

    private int chosen(Prices prices, int place, int person, int taken) {
      int fewest = FAR;
      for (int deed = 0; deed < prices.deeds; deed++) {
        if (!has(taken, deed) && prices.allows(person, deed)) {
          fewest = Math.min(fewest, monthsWith(prices, place, person, deed, taken));
        }
      }
      return fewest < FAR ? fewest : WITHOUT + get(place + 1, taken);
    }

    private int passed(Prices prices, int place, int person, int taken) {
      int deed = prices.lightest(person, ~taken);
      return get(place + 1, taken | bit(deed));
    }

    /** The MONTHS from a step on, if its person takes a DEED. */
    private int monthsWith(Prices prices, int step, int person, int deed, int taken) {
      return prices.of(person, deed) + get(step + 1, taken | bit(deed));
    }

    /** Those of the steps before have taken at most a DEED each. */
    private static boolean canBe(int taken, int step) {
      return Integer.bitCount(taken) <= step;
    }

    private void closeAt(int step) {
      for (int set = 0; set < SETS; set++) {
        set(step, set, 0);
      }
    }
  }

  /** All ORDERS of some PEOPLE, from the first by their numbers on. */
  static final class Orders {
    int length;
    int keptLength;
    final int[] order = new int[ROOM];
    final int[] kept = new int[ROOM];

    void begin(int people) {
      length = people;
      keptLength = 0;
      for (int i = 0; i < order.length; i++) {
        order[i] = i;
      }
    }

    void keep() {
      copyRow(order, kept);
      keptLength = length;
    }

    int keptAt(int i) {
      return i >= 0 && i < keptLength ? at(kept, i) : NONE;
    }

    /** Goes on to the next; false if there is none. */
    boolean step() {
      int low = length - 2;
      while (low >= 0 && at(order, low) >= at(order, low + 1)) {
        low--;
      }
      if (low < 0) {
        return false;
      }
      int high = length - 1;
      while (high > low && at(order, high) <= at(order, low)) {
        high--;
      }
      exchange(low, high);
      for (int i = low + 1, j = length - 1; i < j; i++, j--) {
        exchange(i, j);
      }
      return true;
    }

    private void exchange(int i, int j) {
      int held = at(order, i);
      put(order, i, at(order, j));
      put(order, j, held);
    }
  }
}
