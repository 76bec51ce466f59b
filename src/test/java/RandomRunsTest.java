import java.util.Random;

/** Promises 1 to 31: runs of calls by chance (always the same ones), each compared with Model. */
public final class RandomRunsTest {
  private static final int RUNS = 1500;
  private static final int CALLS = 200;
  private static final int[] ODD = {-1, -2, 7, 10, 61, 200, 10000, Integer.MAX_VALUE, Integer.MIN_VALUE};
  private final Check check = new Check();
  private final Random random = new Random(1518);
  private ParishRaffle x;
  private Model m;
  private int run;
  private int left;

  public static void main(String[] args) {
    new RandomRunsTest().test();
  }

  private void test() {
    for (run = 0; run < RUNS; run++) {
      x = new ParishRaffle();
      m = new Model();
      left = 512;
      if (random.nextInt(8) > 0) {
        layText();
      }
      int calls = run % 100 == 0 ? 512 : CALLS;
      while (512 - left < calls && left > 0) {
        call();
      }
    }
    check.end();
  }

  private void due(String call, long got, long want) {
    left--;
    check.due("run " + run + ", call " + (512 - left) + ": " + call, got, want);
  }

  /** Below n for the most part, or a number that is none. */
  private int upTo(int n) {
    int dice = random.nextInt(40);
    if (dice == 0) {
      return ODD[random.nextInt(ODD.length)];
    }
    return dice == 1 ? n : dice == 2 ? -1 : random.nextInt(Math.max(n, 1));
  }

  private int person() {
    return upTo(m.count(0));
  }

  private int thing() {
    return upTo(m.count(1));
  }

  private String textByChance() {
    StringBuilder s = new StringBuilder();
    int persons = 1 + random.nextInt(5);
    int things = random.nextInt(8) == 0 ? 0 : 1 + random.nextInt(6);
    int held = random.nextInt(3) == 0 ? 3 : 10;
    int worth = random.nextInt(3) == 0 ? 4 : 31;
    for (int p = 0; p < persons; p++) {
      s.append('p').append(random.nextInt(held)).append(';');
    }
    for (int t = 0; t < things; t++) {
      s.append('t').append(random.nextInt(4)).append(',').append(random.nextInt(worth)).append(';');
    }
    int likes = things == 0 ? 0 : random.nextInt(14);
    for (int i = 0; i < likes; i++) {
      s.append('l').append(random.nextInt(persons)).append(',').append(random.nextInt(things));
      s.append(',').append(random.nextInt(worth)).append(';');
    }
    return s.toString();
  }

  private String spoilt(String text) {
    if (text.isEmpty()) {
      return text;
    }
    StringBuilder s = new StringBuilder(text);
    int at = random.nextInt(s.length());
    String signs = "ptl;,0123456789 x";
    char sign = signs.charAt(random.nextInt(signs.length()));
    switch (random.nextInt(4)) {
      case 0:
        s.setCharAt(at, sign);
        break;
      case 1:
        s.insert(at, sign);
        break;
      case 2:
        s.deleteCharAt(at);
        break;
      default:
        s.setLength(at);
        break;
    }
    return s.toString();
  }

  private void layText() {
    String text = textByChance();
    if (random.nextInt(4) == 0) {
      text = spoilt(text);
    }
    due("wipe()", x.wipe(), m.wipe());
    for (int i = 0; i < text.length() && left > 4; i++) {
      int letter = text.charAt(i);
      due("write(" + letter + ")", x.write(letter), m.write(letter));
    }
    due("fault() of " + text, x.fault(), m.fault());
    due("lay()", x.lay(), m.lay());
  }

  private void call() {
    int dice = random.nextInt(100);
    if (dice < 5) {
      textCall();
    } else if (dice < 45) {
      act();
    } else if (dice < 65) {
      look();
    } else if (dice < 85) {
      guess();
    } else {
      noteOrYear();
    }
  }

  private void textCall() {
    int letter = random.nextInt(3) == 0 ? random.nextInt(140) - 6 : "p1;t,0l".charAt(random.nextInt(7));
    int dice = random.nextInt(10);
    if (dice < 6) {
      due("write(" + letter + ")", x.write(letter), m.write(letter));
    } else if (dice == 6) {
      due("wipe()", x.wipe(), m.wipe());
    } else if (dice == 7) {
      due("lay()", x.lay(), m.lay());
    } else {
      due("fault()", x.fault(), m.fault());
    }
  }

  private void act() {
    int p = person();
    int q = person();
    int t = thing();
    int u = thing();
    int n = random.nextInt(3) == 0 ? upTo(10) : 1;
    int k = upTo(m.count(2));
    switch (random.nextInt(10)) {
      case 0:
      case 1:
      case 2:
        due("draw(" + k + ")", x.draw(k), m.draw(k));
        break;
      case 3:
        due("refuse()", x.refuse(), m.refuse());
        break;
      case 4:
        due("buy(" + p + ", " + n + ")", x.buy(p, n), m.buy(p, n));
        break;
      case 5:
        due("hand(" + p + ", " + q + ")", x.hand(p, q), m.hand(p, q));
        break;
      case 6:
        due("swap(" + t + ", " + u + ")", x.swap(t, u), m.swap(t, u));
        break;
      case 7:
        due("give(" + t + ", " + p + ")", x.give(t, p), m.give(t, p));
        break;
      case 8:
        due("undo()", x.undo(), m.undo());
        break;
      default:
        if (random.nextInt(2) == 0) {
          due("keep()", x.keep(), m.keep());
        } else {
          due("back()", x.back(), m.back());
        }
        break;
    }
  }

  private void look() {
    int p = person();
    int t = thing();
    int what = upTo(5);
    int which = upTo(10);
    switch (random.nextInt(4)) {
      case 0:
        due("person(" + p + ", " + what + ")", x.person(p, what), m.person(p, what));
        break;
      case 1:
        due("thing(" + t + ", " + what + ")", x.thing(t, what), m.thing(t, what));
        break;
      case 2:
        due("likes(" + p + ", " + t + ")", x.likes(p, t), m.likes(p, t));
        break;
      default:
        due("count(" + which + ")", x.count(which), m.count(which));
        break;
    }
  }

  private void guess() {
    int p = person();
    int n = upTo(7);
    int part = upTo(2);
    int tenths = upTo(11);
    int t = random.nextInt(3) == 0 ? -1 : thing();
    int dice = random.nextInt(32);
    if (dice < 3) {
      due("wins(" + p + ", " + n + ", " + part + ")", x.wins(p, n, part), m.wins(p, n, part));
    } else if (dice < 6) {
      due("mean(" + p + ", " + part + ")", x.mean(p, part), m.mean(p, part));
    } else if (dice < 10) {
      due("needs(" + p + ", " + n + ", " + tenths + ")", x.needs(p, n, tenths), m.needs(p, n, tenths));
    } else if (dice < 14) {
      due("swaps()", x.swaps(), m.swaps());
    } else if (dice < 18) {
      due("gives()", x.gives(), m.gives());
    } else if (dice < 22) {
      due("envy()", x.envy(), m.envy());
    } else if (dice < 30) {
      due("ring()", x.ring(), m.ring());
    } else {
      due("share(" + t + ")", x.share(t), m.share(t));
    }
  }

  private void noteOrYear() {
    int p = person();
    int s = upTo(10);
    int part = upTo(2);
    int rows = upTo(7);
    int z = random.nextInt(20) == 0 ? upTo(1) : random.nextInt(10000);
    int n = upTo(61);
    int what = upTo(2);
    switch (random.nextInt(8)) {
      case 0:
      case 1:
      case 2:
        due("note(" + p + ")", x.note(p), m.note(p));
        break;
      case 3:
      case 4:
        due("fair(" + p + ", " + s + ", " + part + ")", x.fair(p, s, part), m.fair(p, s, part));
        break;
      case 5:
        due("seats(" + rows + ")", x.seats(rows), m.seats(rows));
        break;
      case 6:
        if (random.nextInt(4) == 0) {
          due("forget()", x.forget(), m.forget());
        }
        break;
      default:
        due("year(" + z + ", " + n + ", " + what + ")", x.year(z, n, what), m.year(z, n, what));
        break;
    }
  }
}
