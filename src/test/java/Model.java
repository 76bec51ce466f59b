import java.math.BigInteger;
import java.util.ArrayDeque;
import java.util.ArrayList;
import java.util.Arrays;
import java.util.Collections;
import java.util.Deque;
import java.util.HashMap;
import java.util.HashSet;
import java.util.List;
import java.util.Map;
import java.util.Set;
import java.util.regex.Matcher;
import java.util.regex.Pattern;

/**
 * The document once more, as slowly and plainly as can be: tickets are one by one in a list, every
 * way that draws can go is gone through, every sharing out is tried.
 */
final class Model {
  static final int BAD = -1, NO = -2, FULL = -3, NONE = -4;
  private static final Pattern ITEM =
      Pattern.compile("p(\\d\\d?);|t(\\d\\d?),(\\d\\d?);|l(\\d\\d?),(\\d\\d?),(\\d\\d?);");
  private static final String FIRST =
      "p3;p1;p5;p0;p2;t0,12;t1,8;t3,10;t2,6;t3,7;t0,3;"
          + "l0,0,4;l1,2,6;l2,1,5;l2,4,9;l4,5,12;l3,0,20;";

  private static final class Told {
    final List<Integer> tickets = new ArrayList<>();
    final List<int[]> things = new ArrayList<>();
    final Map<String, Integer> likes = new HashMap<>();
    int fault = NONE;
  }

  private static final class State {
    List<Integer> hat = new ArrayList<>();
    Map<Integer, Integer> owner = new HashMap<>();
    int next = 0;
    int last = -1;
    boolean moved = false;
    Set<Integer> refused = new HashSet<>();

    State same() {
      State s = new State();
      s.hat = new ArrayList<>(hat);
      s.owner = new HashMap<>(owner);
      s.next = next;
      s.last = last;
      s.moved = moved;
      s.refused = new HashSet<>(refused);
      return s;
    }
  }

  private String text = "";
  private Told told = read(FIRST);
  private State now = fresh();
  private final Deque<State> past = new ArrayDeque<>();
  private final Deque<State> kept = new ArrayDeque<>();
  private final List<Integer> noted = new ArrayList<>();

  private static Told read(String text) {
    Told t = new Told();
    Matcher m = ITEM.matcher(text);
    int at = 0;
    while (at < text.length()) {
      if (!m.region(at, text.length()).lookingAt() || !take(t, m)) {
        t.fault = at;
        return t;
      }
      at = m.end();
    }
    return t;
  }

  private static boolean take(Told t, Matcher m) {
    if (m.group(1) != null) {
      int n = Integer.parseInt(m.group(1));
      return n <= 9 && t.tickets.size() < 5 && t.tickets.add(n);
    }
    if (m.group(2) != null) {
      int k = Integer.parseInt(m.group(2));
      int w = Integer.parseInt(m.group(3));
      return k <= 3 && w <= 30 && t.things.size() < 6 && t.things.add(new int[] {k, w});
    }
    int p = Integer.parseInt(m.group(4));
    int u = Integer.parseInt(m.group(5));
    int l = Integer.parseInt(m.group(6));
    if (p >= t.tickets.size() || u >= t.things.size() || l > 30) {
      return false;
    }
    t.likes.put(p + "/" + u, l);
    return true;
  }

  private State fresh() {
    State s = new State();
    for (int p = 0; p < told.tickets.size(); p++) {
      s.hat.addAll(Collections.nCopies(told.tickets.get(p), p));
    }
    return s;
  }

  private boolean noPerson(int p) {
    return p < 0 || p >= told.tickets.size();
  }

  private boolean noThing(int t) {
    return t < 0 || t >= told.things.size();
  }

  private void remember() {
    past.push(now.same());
    if (past.size() > 8) {
      past.removeLast();
    }
  }

  private static int inHat(State s, int p) {
    return Collections.frequency(s.hat, p);
  }

  private static Set<Integer> thingsOf(State s, int p) {
    Set<Integer> has = new HashSet<>();
    s.owner.forEach((t, q) -> {
      if (q == p) {
        has.add(t);
      }
    });
    return has;
  }

  private int worth(int p, Set<Integer> has) {
    int sum = 0;
    for (int t : has) {
      int kind = told.things.get(t)[0];
      int w = told.things.get(t)[1];
      boolean good = has.stream().anyMatch(u -> told.things.get(u)[0] == 0);
      boolean pair = has.stream().anyMatch(u -> u != t && told.things.get(u)[0] == 3);
      sum += told.likes.getOrDefault(p + "/" + t, 0);
      if (kind == 0 || kind == 3 && pair) {
        sum += w;
      }
      if (kind == 1 || kind == 2 && !good) {
        sum -= w;
      }
    }
    return sum;
  }

  private int worthOfAll(State s) {
    int sum = 0;
    for (int p = 0; p < told.tickets.size(); p++) {
      sum += worth(p, thingsOf(s, p));
    }
    return sum;
  }

  private static int setBits(Set<Integer> set) {
    int bits = 0;
    for (int t : set) {
      bits |= 1 << t;
    }
    return bits;
  }

  int write(int letter) {
    if (letter < 32 || letter > 126) {
      return BAD;
    }
    if (text.length() == 200) {
      return FULL;
    }
    text = text + (char) letter;
    return text.length();
  }

  int wipe() {
    int length = text.length();
    text = "";
    return length;
  }

  int fault() {
    return read(text).fault;
  }

  int lay() {
    Told t = read(text);
    if (t.fault != NONE || t.tickets.isEmpty()) {
      return NO;
    }
    told = t;
    now = fresh();
    past.clear();
    kept.clear();
    noted.clear();
    return t.tickets.size();
  }

  int person(int p, int what) {
    if (noPerson(p) || what < 0 || what > 3) {
      return BAD;
    }
    Set<Integer> has = thingsOf(now, p);
    return what == 0 ? inHat(now, p)
        : what == 1 ? told.tickets.get(p)
        : what == 2 ? setBits(has) : 1000 + worth(p, has);
  }

  int thing(int t, int what) {
    if (noThing(t) || what < 0 || what > 4) {
      return BAD;
    }
    if (what < 2) {
      return told.things.get(t)[what];
    }
    return what == 2 ? now.owner.getOrDefault(t, NONE)
        : what == 3 ? (t < now.next ? 1 : 0) : (canRefuse() && now.last == t ? 1 : 0);
  }

  int likes(int p, int t) {
    return noPerson(p) || noThing(t) ? BAD : told.likes.getOrDefault(p + "/" + t, 0);
  }

  int draw(int k) {
    if (k < 0 || k >= now.hat.size()) {
      return BAD;
    }
    if (now.next == told.things.size()) {
      return NO;
    }
    remember();
    return drawn(now, k);
  }

  private static int drawn(State s, int k) {
    int p = s.hat.remove(k);
    s.owner.put(s.next, p);
    s.last = s.next;
    s.moved = false;
    s.next++;
    return p;
  }

  private boolean canRefuse() {
    return now.last >= 0 && now.owner.containsKey(now.last) && !now.moved
        && !now.refused.contains(now.last);
  }

  int refuse() {
    if (!canRefuse()) {
      return NO;
    }
    remember();
    now.owner.remove(now.last);
    now.refused.add(now.last);
    now.next = now.last;
    return now.last;
  }

  int buy(int p, int n) {
    if (noPerson(p) || n < 1 || n > 9) {
      return BAD;
    }
    if (inHat(now, p) + n > 9) {
      return FULL;
    }
    remember();
    now.hat.addAll(Collections.nCopies(n, p));
    Collections.sort(now.hat);
    return inHat(now, p);
  }

  int hand(int p, int q) {
    if (noPerson(p) || noPerson(q) || p == q) {
      return BAD;
    }
    if (inHat(now, p) == 0) {
      return NO;
    }
    if (inHat(now, q) == 9) {
      return FULL;
    }
    remember();
    now.hat.remove(Integer.valueOf(p));
    now.hat.add(q);
    Collections.sort(now.hat);
    return inHat(now, q);
  }

  int swap(int t, int u) {
    if (noThing(t) || noThing(u) || t == u) {
      return BAD;
    }
    Integer p = now.owner.get(t);
    Integer q = now.owner.get(u);
    if (p == null || q == null || p.equals(q)) {
      return NO;
    }
    remember();
    now.owner.put(t, q);
    now.owner.put(u, p);
    now.moved |= t == now.last || u == now.last;
    return q;
  }

  int give(int t, int p) {
    if (noThing(t) || noPerson(p)) {
      return BAD;
    }
    Integer had = now.owner.get(t);
    if (had == null || had == p) {
      return NO;
    }
    remember();
    now.owner.put(t, p);
    now.moved |= t == now.last;
    return had;
  }

  int undo() {
    if (past.isEmpty()) {
      return NO;
    }
    now = past.pop();
    return past.size();
  }

  /** Goes through all ways of the draws: {ways, ways in which p wins, worths of p in the end}. */
  private long[] goThrough(int[] hat, int mine, int p, int t, int end, Set<Integer> has) {
    if (t == end || Arrays.stream(hat).sum() == 0) {
      boolean won = has.stream().anyMatch(u -> u >= now.next);
      return new long[] {1, won ? 1 : 0, worth(p, has)};
    }
    long[] sum = new long[3];
    for (int q = 0; q < hat.length; q++) {
      if (hat[q] > 0) {
        Set<Integer> then = new HashSet<>(has);
        if (q == mine) {
          then.add(t);
        }
        hat[q]--;
        long[] rest = goThrough(hat, mine, p, t + 1, end, then);
        hat[q]++;
        for (int i = 0; i < 3; i++) {
          sum[i] += hat[q] * rest[i];
        }
      }
    }
    return sum;
  }

  private int endOf(int n) {
    return Math.min(now.next + n, told.things.size());
  }

  private long[] goOn(int p, int n) {
    int[] hat = new int[told.tickets.size()];
    for (int q = 0; q < hat.length; q++) {
      hat[q] = inHat(now, q);
    }
    return goThrough(hat, p, p, now.next, endOf(n), thingsOf(now, p));
  }

  private static long part(BigInteger above, BigInteger below, int part) {
    return (part == 0 ? above : below).divide(above.gcd(below)).longValueExact();
  }

  int wins(int p, int n, int part) {
    if (noPerson(p) || n < 1 || n > 6 || part < 0 || part > 1) {
      return BAD;
    }
    long[] sum = goOn(p, n);
    return Math.toIntExact(part(BigInteger.valueOf(sum[1]), BigInteger.valueOf(sum[0]), part));
  }

  long mean(int p, int part) {
    if (noPerson(p) || part < 0 || part > 1) {
      return BAD;
    }
    long[] sum = goOn(p, 6);
    return part(BigInteger.valueOf(sum[2] + 1000 * sum[0]), BigInteger.valueOf(sum[0]), part);
  }

  int needs(int p, int n, int x) {
    if (noPerson(p) || n < 1 || n > 6 || x < 1 || x > 10) {
      return BAD;
    }
    int others = now.hat.size() - inHat(now, p);
    for (int own = 0; own < 10; own++) {
      int[] hat = {own, others};
      long[] sum = goThrough(hat, 0, p, now.next, endOf(n), thingsOf(now, p));
      if (sum[1] * 10 >= sum[0] * x) {
        return own;
      }
    }
    return NONE;
  }

  int swaps() {
    for (int t = 0; t < told.things.size(); t++) {
      for (int u = t + 1; u < told.things.size(); u++) {
        Integer p = now.owner.get(t);
        Integer q = now.owner.get(u);
        if (p != null && q != null && !p.equals(q)) {
          State then = now.same();
          then.owner.put(t, q);
          then.owner.put(u, p);
          if (worth(p, thingsOf(then, p)) > worth(p, thingsOf(now, p))
              && worth(q, thingsOf(then, q)) > worth(q, thingsOf(now, q))) {
            return 10 * t + u;
          }
        }
      }
    }
    return NONE;
  }

  int gives() {
    for (int t = 0; t < told.things.size(); t++) {
      for (int q = 0; q < told.tickets.size(); q++) {
        Integer p = now.owner.get(t);
        if (p != null && p != q) {
          State then = now.same();
          then.owner.put(t, q);
          int a = worth(p, thingsOf(then, p)) - worth(p, thingsOf(now, p));
          int b = worth(q, thingsOf(then, q)) - worth(q, thingsOf(now, q));
          if (a >= 0 && b >= 0 && (a > 0 || b > 0)) {
            return 10 * t + q;
          }
        }
      }
    }
    return NONE;
  }

  int share(int t) {
    if (t < -1 || t >= told.things.size()) {
      return BAD;
    }
    if (t >= 0 && !now.owner.containsKey(t)) {
      return NONE;
    }
    List<Integer> owned = new ArrayList<>(now.owner.keySet());
    Collections.sort(owned);
    int persons = told.tickets.size();
    int[] way = new int[owned.size()];
    int[] best = null;
    int most = Integer.MIN_VALUE;
    boolean more = true;
    while (more) {
      State then = now.same();
      for (int i = 0; i < way.length; i++) {
        then.owner.put(owned.get(i), way[i]);
      }
      int sum = worthOfAll(then);
      if (sum > most) {
        most = sum;
        best = way.clone();
      }
      int i = way.length - 1;
      while (i >= 0 && ++way[i] == persons) {
        way[i--] = 0;
      }
      more = i >= 0;
    }
    return t < 0 ? 1000 + most : best[owned.indexOf(t)];
  }

  private boolean envies(int p, int q) {
    return worth(p, thingsOf(now, q)) > worth(p, thingsOf(now, p));
  }

  int envy() {
    for (int p = 0; p < told.tickets.size(); p++) {
      for (int q = 0; q < told.tickets.size(); q++) {
        if (p != q && envies(p, q)) {
          return 10 * p + q;
        }
      }
    }
    return NONE;
  }

  int ring() {
    int best = Integer.MAX_VALUE;
    for (int p = 0; p < told.tickets.size(); p++) {
      best = Math.min(best, rowFrom(p, new ArrayList<>(List.of(p))));
    }
    return best == Integer.MAX_VALUE ? NONE : best;
  }

  private int rowFrom(int last, List<Integer> row) {
    int best = Integer.MAX_VALUE;
    if (row.size() > 1 && envies(last, row.get(0))) {
      best = row.size();
    }
    for (int q = 0; q < told.tickets.size(); q++) {
      if (!row.contains(q) && envies(last, q)) {
        row.add(q);
        best = Math.min(best, rowFrom(q, row));
        row.remove(row.size() - 1);
      }
    }
    return best;
  }

  int note(int p) {
    if (noPerson(p)) {
      return BAD;
    }
    if (noted.size() == 8) {
      return FULL;
    }
    noted.add(p);
    return noted.size();
  }

  int forget() {
    int many = noted.size();
    noted.clear();
    return many;
  }

  long fair(int p, int s, int part) {
    if (noPerson(p) || s < 1 || s > 9 || part < 0 || part > 1) {
      return BAD;
    }
    int all = told.tickets.stream().mapToInt(i -> i).sum();
    // each note multiplies the one side by a / b, the other by c / d: both by b d
    BigInteger loaded = BigInteger.valueOf(s);
    BigInteger even = BigInteger.valueOf(10 - s);
    for (int q : noted) {
      long held = told.tickets.get(q);
      loaded = loaded.multiply(BigInteger.valueOf((q == p ? 2 * held : held) * all));
      even = even.multiply(BigInteger.valueOf(held * (all + told.tickets.get(p))));
    }
    BigInteger both = loaded.add(even);
    return both.signum() == 0 ? NONE : part(loaded, both, part);
  }

  long seats(int m) {
    return m < 0 || m > 8 ? BAD : rows(m, -1);
  }

  private long rows(int m, int ahead) {
    if (m == 0) {
      return 1;
    }
    long sum = 0;
    for (int p = 0; p < told.tickets.size(); p++) {
      if (p != ahead && told.tickets.get(p) > 0) {
        sum += told.tickets.get(p) * rows(m - 1, p);
      }
    }
    return sum;
  }

  int year(int z, int n, int what) {
    if (z < 0 || z > 9999 || n < 1 || n > 60 || what < 0 || what > 1) {
      return BAD;
    }
    State before = now;
    Deque<State> pastBefore = new ArrayDeque<>(past);
    now = now.same();
    for (int k = 0; k < n; k++) {
      BigInteger x = BigInteger.valueOf(7919L * z + 6151L * k + 1);
      int draw = x.multiply(x).mod(BigInteger.valueOf(65521)).intValue();
      if (draw % 4 == 0 && !now.hat.isEmpty()) {
        draw(draw / 4 % now.hat.size());
      } else if (draw % 4 == 1) {
        buy(draw / 4 % told.tickets.size(), draw / 64 % 3 + 1);
      } else if (draw % 4 == 2 && !told.things.isEmpty()) {
        give(draw / 4 % told.things.size(), draw / 64 % told.tickets.size());
      }
    }
    int answer = what == 0 ? now.owner.size() : 1000 + worthOfAll(now);
    now = before;
    past.clear();
    past.addAll(pastBefore);
    return answer;
  }

  int keep() {
    if (kept.size() == 2) {
      return FULL;
    }
    kept.push(now.same());
    return kept.size();
  }

  int back() {
    if (kept.isEmpty()) {
      return NO;
    }
    now = kept.pop();
    past.clear();
    return kept.size();
  }

  int count(int what) {
    switch (what) {
      case 0:
        return told.tickets.size();
      case 1:
        return told.things.size();
      case 2:
        return now.hat.size();
      case 3:
        return now.next == told.things.size() ? NONE : now.next;
      case 4:
        return now.owner.size();
      case 5:
        return 1000 + worthOfAll(now);
      case 6:
        return noted.size();
      case 7:
        return past.size();
      case 8:
        return kept.size();
      case 9:
        return text.length();
      default:
        return BAD;
    }
  }
}
