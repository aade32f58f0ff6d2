import java.math.BigInteger;
import java.util.ArrayList;
import java.util.Arrays;
import java.util.Collections;
import java.util.List;

/**
 * The document once more, slow and plain: it tries all choosings one by one, keeps whole nights for
 * what is taken back, and shares no code with the class.
 */
final class Model {
  static final int NONE = -9;

  static final class Deed {
    int kind;
    int figure;
    boolean bench;

    Deed(int kind, int figure, boolean bench) {
      this.kind = kind;
      this.figure = figure;
      this.bench = bench;
    }
  }

  static final class Person {
    int record;
    int could;
    int did;
    int brother = NONE;
    boolean[] alibi = new boolean[20];
  }

  static final class State {
    List<Deed> deeds = new ArrayList<>();
    List<Person> people = new ArrayList<>();
    List<Integer> order = new ArrayList<>();

    State twin() {
      State s = new State();
      for (Deed d : deeds) {
        s.deeds.add(new Deed(d.kind, d.figure, d.bench));
      }
      for (Person p : people) {
        Person q = new Person();
        q.record = p.record;
        q.could = p.could;
        q.did = p.did;
        q.brother = p.brother;
        q.alibi = p.alibi.clone();
        s.people.add(q);
      }
      s.order.addAll(order);
      return s;
    }

    boolean may(int p, int d) {
      if (d < 0 || d >= deeds.size() || people.get(p).alibi[d]) {
        return false;
      }
      return deeds.get(d).kind == 5 || (people.get(p).could >> d) % 2 == 1;
    }

    int months(int p, int d) {
      if (d < 0) {
        return 60;
      }
      Deed deed = deeds.get(d);
      int m = full(deed.kind, deed.figure, people.get(p).record);
      if (!deed.bench && people.get(p).did == d) {
        m -= m / 3;
      }
      return m;
    }

    static int full(int kind, int figure, int record) {
      if (kind == 0) {
        return 1 + figure + figure;
      } else if (kind == 1) {
        return full(0, figure, record) + 3 + record / 2;
      } else if (kind == 2) {
        return full(0, figure, record) / 2;
      } else if (kind == 3) {
        int theft = full(1, figure, record);
        return theft + theft + theft;
      } else if (kind == 4) {
        return full(2, figure, record) + 1;
      }
      int left = full(1, figure, record) - record;
      return left < 1 ? 1 : left;
    }

    void twoChange(int a, int b) {
      Collections.swap(order, order.indexOf(a), order.indexOf(b));
    }

    void makeBrothers(int a, int b) {
      for (Person p : people) {
        if (p.brother == a || p.brother == b) {
          p.brother = NONE;
        }
      }
      people.get(a).brother = b;
      people.get(b).brother = a;
    }
  }

  /** What each took, in a choosing. */
  static final class Held {
    int[] taken;
    int[] months;
    int all;
    int first = NONE;
    int left;
    List<Integer> trueOnes = new ArrayList<>();
  }

  State now = new State();
  State image;
  List<State> past = new ArrayList<>();
  List<Integer> text = new ArrayList<>();
  List<Integer> told = new ArrayList<>();
  int[] refused = new int[7];

  int no(int number) {
    refused[-number]++;
    return number;
  }

  long noLong(int number) {
    return 4000000000000000000L - no(number);
  }

  int noBig(int number) {
    return 1000000000 - no(number);
  }

  int people() {
    return now.people.size();
  }

  int deeds() {
    return now.deeds.size();
  }

  boolean isOne(int p) {
    return p >= 0 && p < people();
  }

  boolean isDeed(int d) {
    return d >= 0 && d < deeds();
  }

  // ---- choosings

  static Held finish(State s, int[] taken) {
    Held h = new Held();
    h.taken = taken;
    h.months = new int[taken.length];
    h.left = (1 << s.deeds.size()) - 1;
    for (int place : s.order) {
      h.months[place] = s.months(place, taken[place]);
      h.all += h.months[place];
      if (taken[place] == NONE && h.first == NONE) {
        h.first = place;
      }
      if (taken[place] != NONE) {
        h.left -= 1 << taken[place];
      }
    }
    return h;
  }

  static int cheapest(State s, int p, boolean[] gone) {
    int best = NONE;
    for (int d = s.deeds.size() - 1; d >= 0; d--) {
      if (!gone[d] && s.may(p, d) && (best == NONE || s.months(p, d) <= s.months(p, best))) {
        best = d;
      }
    }
    return best;
  }

  static Held hold(State s, boolean[] goneBefore, boolean honest) {
    boolean[] gone = goneBefore.clone();
    int[] taken = new int[s.people.size()];
    List<Integer> trueOnes = new ArrayList<>();
    for (int p : s.order) {
      int d = cheapest(s, p, gone);
      int did = s.people.get(p).did;
      if (honest && did < s.deeds.size() && s.may(p, did) && !gone[did]) {
        d = did;
        trueOnes.add(p);
      }
      taken[p] = d;
      if (d != NONE) {
        gone[d] = true;
      }
    }
    Held h = finish(s, taken);
    h.trueOnes = trueOnes;
    return h;
  }

  static Held hold(State s) {
    return hold(s, new boolean[20], false);
  }

  Held hold(List<Integer> order) {
    State s = now.twin();
    s.order = new ArrayList<>(order);
    return hold(s);
  }

  /** All that those from a place on take, each knowing what those behind will do. */
  static int[] lastBack(State s, int place, boolean[] gone) {
    int n = s.people.size();
    if (place == n) {
      int[] none = new int[n];
      Arrays.fill(none, NONE);
      return none;
    }
    int p = s.order.get(place);
    int brother = s.people.get(p).brother;
    int[] best = null;
    int fewest = 0;
    for (int d = 0; d < s.deeds.size(); d++) {
      if (!gone[d] && s.may(p, d)) {
        boolean[] next = gone.clone();
        next[d] = true;
        int[] all = lastBack(s, place + 1, next);
        all[p] = d;
        int sum = s.months(p, d);
        if (brother != NONE && s.order.indexOf(brother) > place) {
          sum += s.months(brother, all[brother]);
        }
        if (best == null || sum < fewest) {
          best = all;
          fewest = sum;
        }
      }
    }
    return best == null ? lastBack(s, place + 1, gone) : best;
  }

  static Held lastBack(State s) {
    return finish(s, lastBack(s, 0, new boolean[20]));
  }

  private int[] leastTaken;
  private int leastSum;

  private void leastFrom(int p, int[] taken, boolean[] gone, int sum) {
    if (p == people()) {
      if (leastTaken == null || sum < leastSum) {
        leastTaken = taken.clone();
        leastSum = sum;
      }
      return;
    }
    for (int d = 0; d < deeds(); d++) {
      if (!gone[d] && now.may(p, d)) {
        gone[d] = true;
        taken[p] = d;
        leastFrom(p + 1, taken, gone, sum + now.months(p, d));
        gone[d] = false;
      }
    }
    taken[p] = NONE;
    leastFrom(p + 1, taken, gone, sum + 60);
  }

  private int togetherFrom(int place, int set, boolean[] gone) {
    if (place == people()) {
      return 0;
    }
    int p = now.order.get(place);
    boolean in = (set >> p) % 2 == 1;
    int only = cheapest(now, p, gone);
    if (only == NONE) {
      return (in ? 60 : 0) + togetherFrom(place + 1, set, gone);
    }
    int best = Integer.MAX_VALUE;
    for (int d = 0; d < deeds(); d++) {
      if (!gone[d] && now.may(p, d) && (in || d == only)) {
        gone[d] = true;
        best = Math.min(best, (in ? now.months(p, d) : 0) + togetherFrom(place + 1, set, gone));
        gone[d] = false;
      }
    }
    return best;
  }

  private long waysFrom(int d, boolean[] used, int person, int deed) {
    if (d == deeds()) {
      return 1;
    }
    long sum = 0;
    for (int p = 0; p < people(); p++) {
      int did = now.people.get(p).did;
      boolean can = now.may(p, d) && did != 7 && (did == d || did >= deeds());
      if (!used[p] && can && (deed != d || person == p)) {
        used[p] = true;
        sum += waysFrom(d + 1, used, person, deed);
        used[p] = false;
      }
    }
    return sum;
  }

  private List<List<Integer>> allOrders() {
    List<List<Integer>> all = new ArrayList<>();
    addOrders(new ArrayList<>(), all);
    return all;
  }

  private void addOrders(List<Integer> head, List<List<Integer>> all) {
    if (head.size() == people()) {
      all.add(new ArrayList<>(head));
      return;
    }
    for (int p = 0; p < people(); p++) {
      if (!head.contains(p)) {
        head.add(p);
        addOrders(head, all);
        head.remove(head.size() - 1);
      }
    }
  }

  private List<Integer> moved(List<Integer> order, int p, int place) {
    List<Integer> moved = new ArrayList<>(order);
    moved.remove(Integer.valueOf(p));
    moved.add(place, p);
    return moved;
  }

  private List<Integer> turned() {
    List<Integer> turned = new ArrayList<>(now.order);
    Collections.reverse(turned);
    return turned;
  }

  // ---- the calls

  int feed(int letter) {
    if (letter < 0) {
      return no(-4);
    }
    if (letter > 255 || text.size() == 96) {
      return no(-6);
    }
    text.add(letter);
    return text.size();
  }

  int night() {
    StringBuilder all = new StringBuilder();
    for (int letter : text) {
      all.append((char) letter);
    }
    text.clear();
    String rest = all.toString();
    int place = 0;
    List<String> statements = new ArrayList<>();
    while (true) {
      String left = rest.substring(place);
      if (left.isEmpty() && !statements.isEmpty()) {
        break;
      }
      String form = left.startsWith("p") ? "p#####;" : left.isEmpty() ? "#" : left.charAt(0) + "##;";
      if (!left.isEmpty() && "dpbax".indexOf(left.charAt(0)) < 0) {
        return -1000 - place;
      }
      for (int i = 0; i < form.length(); i++) {
        if (i >= left.length()) {
          return -1000 - rest.length();
        }
        char c = left.charAt(i);
        boolean fine = form.charAt(i) == '#' ? c >= '0' && c <= '9' : c == form.charAt(i);
        if (!fine) {
          return -1000 - place - i;
        }
      }
      statements.add(left.substring(0, form.length()));
      place += form.length();
    }
    State s = now.twin();
    place = 0;
    for (String one : statements) {
      if (!state(s, one)) {
        return -2000 - place;
      }
      place += one.length();
    }
    now = s;
    past.clear();
    return statements.size();
  }

  private static boolean state(State s, String one) {
    int a = one.charAt(1) - '0';
    int b = one.charAt(2) - '0';
    int n = s.people.size();
    boolean two = a < n && b < n && a != b;
    switch (one.charAt(0)) {
      case 'd':
        if (a > 5 || s.deeds.size() == 7) {
          return false;
        }
        s.deeds.add(new Deed(a, b, false));
        return true;
      case 'p':
        Person p = new Person();
        p.record = a;
        p.could = Integer.parseInt(one.substring(2, 5));
        p.did = one.charAt(5) - '0';
        if (p.could > 127 || p.did > 7 || n == 7) {
          return false;
        }
        s.people.add(p);
        s.order.add(n);
        return true;
      case 'b':
        if (two) {
          s.makeBrothers(a, b);
        }
        return two;
      case 'a':
        if (a >= n || b >= s.deeds.size()) {
          return false;
        }
        s.people.get(a).alibi[b] ^= true;
        return true;
      default:
        if (two) {
          s.twoChange(a, b);
        }
        return two;
    }
  }

  int deed(int d, int what) {
    if (!isDeed(d)) {
      return no(-1);
    }
    return what == 0 ? now.deeds.get(d).kind : what == 1 ? now.deeds.get(d).figure : no(-2);
  }

  int person(int p, int what) {
    if (!isOne(p)) {
      return no(-1);
    }
    Person q = now.people.get(p);
    int alibis = 0;
    int may = 0;
    for (int d = 0; d < deeds(); d++) {
      alibis += q.alibi[d] ? 1 << d : 0;
      may += now.may(p, d) ? 1 << d : 0;
    }
    int[] all = {q.record, q.could, q.did, q.brother, now.order.indexOf(p), alibis, may};
    return what < 0 || what > 6 ? no(-2) : all[what];
  }

  int months(int p, int d) {
    return isOne(p) && isDeed(d) ? now.months(p, d) : no(-1);
  }

  int addDeed(int kind, int figure) {
    if (kind < 0 || kind > 5) {
      return no(-2);
    }
    if (figure < 0) {
      return no(-4);
    }
    if (figure > 9 || deeds() == 7) {
      return no(-6);
    }
    past.clear();
    now.deeds.add(new Deed(kind, figure, false));
    return deeds() - 1;
  }

  int addPerson(int record, int could, int did) {
    if (Math.min(record, Math.min(could, did)) < 0) {
      return no(-4);
    }
    if (record > 9 || could > 127 || did > 7 || people() == 7) {
      return no(-6);
    }
    past.clear();
    Person p = new Person();
    p.record = record;
    p.could = could;
    p.did = did;
    now.order.add(people());
    now.people.add(p);
    return people() - 1;
  }

  private void keepPast() {
    past.add(now.twin());
    if (past.size() > 8) {
      past.remove(0);
    }
  }

  int change(int a, int b) {
    if (!isOne(a) || !isOne(b) || a == b) {
      return no(-1);
    }
    keepPast();
    now.twoChange(a, b);
    return now.order.indexOf(a);
  }

  int alibi(int p, int d) {
    if (!isOne(p) || !isDeed(d)) {
      return no(-1);
    }
    keepPast();
    now.people.get(p).alibi[d] = !now.people.get(p).alibi[d];
    return now.people.get(p).alibi[d] ? 1 : 0;
  }

  int brothers(int a, int b) {
    if (!isOne(a) || !isOne(b) || a == b) {
      return no(-1);
    }
    keepPast();
    int was = now.people.get(a).brother;
    now.makeBrothers(a, b);
    return was;
  }

  int back() {
    if (past.isEmpty()) {
      return no(-3);
    }
    now = past.remove(past.size() - 1);
    return past.size();
  }

  int takes(int p, int what) {
    if (!isOne(p)) {
      return no(-1);
    }
    return what == 0 ? hold(now).taken[p] : what == 1 ? hold(now).months[p] : no(-2);
  }

  int morning(int what) {
    Held h = hold(now);
    return what == 0 ? h.first : what == 1 ? h.all : what == 2 ? h.left : no(-2);
  }

  int least(int p) {
    if (p < -1 || p >= people()) {
      return no(-1);
    }
    leastTaken = null;
    leastFrom(0, new int[people()], new boolean[20], 0);
    return p == -1 ? leastSum : leastTaken[p];
  }

  int fromLast(int p, int what) {
    if (!isOne(p)) {
      return no(-1);
    }
    return what == 0 ? lastBack(now).taken[p] : what == 1 ? lastBack(now).months[p] : no(-2);
  }

  int allFromLast() {
    return lastBack(now).all;
  }

  long whose(int p, int d) {
    if (p == -1 && d == -1) {
      return waysFrom(0, new boolean[20], -1, -1);
    }
    return isOne(p) && isDeed(d) ? waysFrom(0, new boolean[20], p, d) : noLong(-1);
  }

  private Held holdRule(int rule) {
    List<Integer> order = new ArrayList<>(now.order);
    if (rule > 0) {
      Collections.sort(order);
      order.sort((a, b) -> Integer.compare(key(rule, a), key(rule, b)));
    }
    return hold(order);
  }

  private int key(int rule, int p) {
    Person q = now.people.get(p);
    return rule == 1 ? q.record : rule == 2 ? 9 - q.record
        : rule == 3 ? q.did / 7 : 1 - q.did / 7;
  }

  int rule(int rule, int what) {
    if (rule < 0 || rule > 4 || what < 0 || what > 1) {
      return no(-2);
    }
    Held h = holdRule(rule);
    if (what == 0) {
      return h.all;
    }
    for (int two = 0; two < 100; two++) {
      int a = two / 10;
      int b = two % 10;
      if (a < people() && b < people() && now.people.get(a).did == 7
          && now.people.get(b).did != 7 && h.months[a] > h.months[b]) {
        return two;
      }
    }
    return NONE;
  }

  int bestRule() {
    int best = 4;
    for (int rule = 3; rule >= 0; rule--) {
      best = holdRule(rule).all <= holdRule(best).all ? rule : best;
    }
    return best;
  }

  private int monthsAt(int p, int place) {
    return hold(moved(now.order, p, place)).months[p];
  }

  int placeWorth(int p) {
    return isOne(p) ? monthsAt(p, people() - 1) - monthsAt(p, 0) : noBig(-1);
  }

  private Held holdTwo(int a, int b) {
    State s = now.twin();
    s.twoChange(a, b);
    return hold(s);
  }

  int changes() {
    Held h = hold(now);
    for (int a = 0; a < people(); a++) {
      for (int b = a + 1; b < people(); b++) {
        Held k = holdTwo(a, b);
        boolean aFewer = k.months[a] < h.months[a];
        boolean bFewer = k.months[b] < h.months[b];
        boolean aSame = k.months[a] == h.months[a];
        boolean bSame = k.months[b] == h.months[b];
        if (aFewer && bFewer || aFewer && bSame || aSame && bFewer) {
          return 10 * a + b;
        }
      }
    }
    return NONE;
  }

  private int sought(int i, boolean even) {
    if (people() > 5) {
      return no(-3);
    }
    if (i < -1) {
      return no(-4);
    }
    List<Integer> best = null;
    int fewest = 0;
    for (List<Integer> order : allOrders()) {
      Held h = hold(order);
      int score = h.all;
      if (even) {
        score = 0;
        for (int m : h.months) {
          score = Math.max(score, m);
        }
      }
      if (best == null || score < fewest) {
        best = order;
        fewest = score;
      }
    }
    return i == -1 ? fewest : i < people() ? best.get(i) : NONE;
  }

  int bestOrder(int i) {
    return sought(i, false);
  }

  int putIn(int figure, int what) {
    if (figure < 0) {
      return no(-4);
    }
    if (figure > 9) {
      return no(-6);
    }
    if (what != 0 && what != 1) {
      return no(-2);
    }
    State s = now.twin();
    int put = 0;
    while (hold(s).first != NONE) {
      s.deeds.add(new Deed(5, figure, true));
      put++;
    }
    return what == 0 ? put : hold(s).all;
  }

  int together(int set, int what) {
    if (set < 0) {
      return no(-4);
    }
    if (set >> people() != 0) {
      return no(-6);
    }
    if (what != 0 && what != 1) {
      return no(-2);
    }
    int fewest = togetherFrom(0, set, new boolean[20]);
    int plain = 0;
    for (int p = 0; p < people(); p++) {
      plain += (set >> p) % 2 * hold(now).months[p];
    }
    return what == 0 ? fewest : plain - fewest;
  }

  int alibiWorth(int p, int d) {
    if (!isOne(p) || !isDeed(d)) {
      return noBig(-1);
    }
    State s = now.twin();
    s.people.get(p).alibi[d] ^= true;
    return hold(s).all - hold(now).all;
  }

  int givenAway() {
    int best = NONE;
    int fewest = hold(now).all;
    for (int p = 0; p < people(); p++) {
      for (int d = 0; d < deeds(); d++) {
        State s = now.twin();
        s.people.get(p).alibi[d] = false;
        if (hold(s).all < fewest) {
          fewest = hold(s).all;
          best = 10 * p + d;
        }
      }
    }
    return best;
  }

  long caught(int t, int k, int part) {
    if (t < 2 || k < 0) {
      return noLong(-4);
    }
    if (t > 20 || k > 7) {
      return noLong(-6);
    }
    if (part != 0 && part != 1) {
      return noLong(-2);
    }
    int untrue = 0;
    Held h = hold(now);
    for (int p = 0; p < people(); p++) {
      untrue += h.taken[p] != NONE && h.taken[p] != now.people.get(p).did ? 1 : 0;
    }
    BigInteger above = BigInteger.ZERO;
    for (int set = 0; set < 1 << untrue; set++) {
      if (Integer.bitCount(set) == k) {
        above = above.add(BigInteger.valueOf(t - 1).pow(untrue - k));
      }
    }
    BigInteger below = BigInteger.valueOf(t).pow(untrue);
    BigInteger common = above.gcd(below);
    return (part == 0 ? above : below).divide(common).longValueExact();
  }

  int spared() {
    int bits = 0;
    for (int d = 0; d < deeds(); d++) {
      boolean[] gone = new boolean[20];
      gone[d] = true;
      bits += hold(now, gone, false).all == hold(now).all ? 1 << d : 0;
    }
    return bits;
  }

  int keeper() {
    int best = NONE;
    int fewest = 0;
    Held h = hold(now);
    for (int p = 0; p < people(); p++) {
      int b = now.people.get(p).brother;
      if (b != NONE) {
        int m = hold(moved(now.order, p, people() - 1)).months[b];
        if (m < h.months[b] && (best == NONE || m < fewest)) {
          best = p;
          fewest = m;
        }
      }
    }
    return best;
  }

  int swaps(int what) {
    if (what != 0 && what != 1) {
      return no(-2);
    }
    Held h = lastBack(now);
    int first = NONE;
    for (int two = 99; two >= 0; two--) {
      int a = two / 10;
      int b = two % 10;
      if (a < b && b < people() && h.taken[a] != NONE && h.taken[b] != NONE
          && now.may(a, h.taken[b]) && now.may(b, h.taken[a])
          && now.months(a, h.taken[b]) < h.months[a]
          && now.months(b, h.taken[a]) < h.months[b]) {
        first = two;
      }
    }
    return what == 0 ? first : first == NONE ? 1 : 0;
  }

  int heavier(int p, int d) {
    if (!isOne(p) || !isDeed(d)) {
      return no(-1);
    }
    int greatest = NONE;
    for (int figure = 0; figure <= 9; figure++) {
      State s = now.twin();
      s.deeds.get(d).figure = figure;
      greatest = hold(s).taken[p] == d ? figure : greatest;
    }
    return greatest;
  }

  int bestDid(int p) {
    if (!isOne(p)) {
      return no(-1);
    }
    int best = 7;
    int fewest = Integer.MAX_VALUE;
    for (int d = 7; d >= 0; d--) {
      if (d == 7 || now.may(p, d)) {
        State s = now.twin();
        s.people.get(p).did = d;
        int m = hold(s).months[p];
        if (m <= fewest) {
          best = d;
          fewest = m;
        }
      }
    }
    return best;
  }

  int rest(int what) {
    if (what < 0 || what > 2) {
      return no(-2);
    }
    boolean[] gone = new boolean[20];
    int mornings = 0;
    int sum = 0;
    boolean some = true;
    while (some) {
      some = false;
      Held h = hold(now, gone, false);
      for (int p = 0; p < people(); p++) {
        if (h.taken[p] != NONE) {
          some = true;
          gone[h.taken[p]] = true;
          sum += h.months[p];
        }
      }
      mornings += some ? 1 : 0;
    }
    int left = 0;
    for (int d = 0; d < deeds(); d++) {
      left += gone[d] ? 0 : 1 << d;
    }
    return what == 0 ? mornings : what == 1 ? sum : left;
  }

  int even(int i) {
    return sought(i, true);
  }

  int lastWord(int p) {
    if (!isOne(p)) {
      return no(-1);
    }
    int a = hold(moved(now.order, p, people() - 1)).months[p];
    int b = hold(moved(turned(), p, people() - 1)).months[p];
    return a < b ? a : b;
  }

  int bribe(int what) {
    if (what != 0 && what != 1) {
      return no(-2);
    }
    int best = NONE;
    int fewest = Integer.MAX_VALUE;
    int less = NONE;
    Held h = hold(now);
    for (int a = 0; a < people(); a++) {
      for (int b = a + 1; b < people(); b++) {
        Held k = holdTwo(a, b);
        int gain = h.months[a] + h.months[b] - k.months[a] - k.months[b];
        if (gain > 0 && k.months[a] + k.months[b] < fewest) {
          best = 10 * a + b;
          fewest = k.months[a] + k.months[b];
          less = gain;
        }
      }
    }
    return what == 0 ? best : less;
  }

  int latest(int p, int what) {
    if (!isOne(p)) {
      return no(-1);
    }
    if (what != 0 && what != 1) {
      return no(-2);
    }
    int place = people() - 1;
    while (monthsAt(p, place) > monthsAt(p, 0)) {
      place--;
    }
    int worst = 0;
    for (int i = 0; i < people(); i++) {
      worst = Math.max(worst, monthsAt(p, i));
    }
    return what == 0 ? place : worst;
  }

  int truth(int what) {
    Held h = hold(now, new boolean[20], true);
    return what == 0 ? h.all : what == 1 ? h.trueOnes.size() : no(-2);
  }

  int parole() {
    int best = NONE;
    int fewest = hold(now).all;
    for (int p = 0; p < people(); p++) {
      State s = now.twin();
      s.people.get(p).record = 0;
      if (hold(s).all < fewest) {
        best = p;
        fewest = hold(s).all;
      }
    }
    return best;
  }

  int newBrothers() {
    int best = NONE;
    int fewest = lastBack(now).all;
    for (int a = 0; a < people(); a++) {
      for (int b = a + 1; b < people(); b++) {
        State s = now.twin();
        s.makeBrothers(a, b);
        int all = lastBack(s).all;
        if (all < fewest) {
          best = 10 * a + b;
          fewest = all;
        }
      }
    }
    return best;
  }

  int madeLight() {
    int best = NONE;
    int fewest = hold(now).all;
    for (int d = 0; d < deeds(); d++) {
      State s = now.twin();
      s.deeds.get(d).kind = 2;
      if (hold(s).all < fewest) {
        best = d;
        fewest = hold(s).all;
      }
    }
    return best;
  }

  int always() {
    List<Integer> later = new ArrayList<>(now.order);
    if (!later.isEmpty()) {
      later.add(later.remove(0));
    }
    int left = hold(now).left | hold(turned()).left | hold(later).left;
    return (1 << deeds()) - 1 - left;
  }

  int row(int v) {
    if (v < 0) {
      return no(-4);
    }
    if (v > 9 || told.size() == 12) {
      return no(-6);
    }
    told.add(v);
    return told.size();
  }

  private int notSo(Held h) {
    for (int i = 0; i < told.size(); i++) {
      if (i >= people() || told.get(i) != (h.taken[i] == NONE ? 9 : h.taken[i])) {
        return i;
      }
    }
    return NONE;
  }

  int judge() {
    int answer = notSo(hold(now));
    told.clear();
    return answer;
  }

  int fits(int i) {
    if (people() > 5) {
      return no(-3);
    }
    if (i < -1) {
      return no(-4);
    }
    List<List<Integer>> fitting = new ArrayList<>();
    for (List<Integer> order : allOrders()) {
      if (notSo(hold(order)) == NONE) {
        fitting.add(order);
      }
    }
    if (i == -1) {
      return fitting.size();
    }
    return fitting.isEmpty() || i >= people() ? NONE : fitting.get(0).get(i);
  }

  int clear() {
    int had = told.size();
    told.clear();
    return had;
  }

  int lots(int n, int z, int what) {
    if (n < 1) {
      return no(-4);
    }
    if (n > 20) {
      return no(-6);
    }
    if (what != 0 && what != 1) {
      return no(-2);
    }
    BigInteger two32 = BigInteger.ONE.shiftLeft(32);
    BigInteger seed = BigInteger.valueOf(z).mod(two32);
    int all = 0;
    int full = 0;
    for (int i = 0; i < n; i++) {
      State s = now.twin();
      for (Person p : s.people) {
        seed = seed.multiply(BigInteger.valueOf(1103515245)).add(BigInteger.valueOf(12345)).mod(two32);
        p.could = seed.clearBit(31).divide(BigInteger.valueOf(65536)).mod(BigInteger.valueOf(128)).intValue();
      }
      all += hold(s).all;
      full += hold(s).first == NONE ? 1 : 0;
    }
    return what == 0 ? all : full;
  }

  int image() {
    image = now.twin();
    return people();
  }

  int restore() {
    if (image == null) {
      return no(-3);
    }
    now = image.twin();
    past.clear();
    return people();
  }

  int count(int what) {
    int records = 0;
    int alibis = 0;
    for (Person p : now.people) {
      records += p.record;
      for (boolean has : p.alibi) {
        alibis += has ? 1 : 0;
      }
    }
    int[] first = {people(), deeds(), records, alibis, text.size(), told.size(), past.size()};
    if (what >= 0 && what < first.length) {
      return first[what];
    }
    return what >= 11 && what <= 16 ? refused[what - 10] : NONE;
  }
}
