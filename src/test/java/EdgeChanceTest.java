/** The edges of promises 16 to 18: wins, mean, needs. */
public final class EdgeChanceTest {
  private static final int BAD = ParishRaffle.BAD, NONE = ParishRaffle.NONE;
  private static final Edges EDGES = new Edges();

  public static void main(String[] args) {
    winsNumbers();
    winsOfFewer();
    winsForSureAndNever();
    winsOfTheMost();
    winsOfWhatIsNext();
    meanNumbers();
    meanAtItsEdges();
    meanOfThePast();
    meanOfTheMost();
    needsNumbers();
    needsJustEnough();
    needsInPlaceOfItsOwn();
    needsNone();
    askingLeavesAll();
    EDGES.end();
  }

  // promise 16

  private static void wins(ParishRaffle x, int p, int n, int above, int below) {
    EDGES.due("wins(" + p + ", " + n + ", 0)", x.wins(p, n, 0), above);
    EDGES.due("wins(" + p + ", " + n + ", 1)", x.wins(p, n, 1), below);
  }

  private static void winsNumbers() {
    for (int persons = 1; persons <= 5; persons++) {
      String text = "p1;".repeat(persons) + "t0,1;";
      for (int p = -2; p <= 6; p++) {
        ParishRaffle x = Check.laid(text);
        for (int n = -2; n <= 9; n++) {
          for (int part = -2; part <= 3; part++) {
            boolean is = p >= 0 && p < persons && n >= 1 && n <= 6 && part >= 0 && part <= 1;
            EDGES.due("wins(" + p + ", " + n + ", " + part + ") of " + persons, x.wins(p, n, part),
                !is ? BAD : part == 0 ? 1 : persons);
          }
        }
      }
    }
    for (int far : Edges.FAR) {
      EDGES.due("wins(" + far + ", 1, 0)", Parishes.first().wins(far, 1, 0), BAD);
      EDGES.due("wins(0, " + far + ", 0)", Parishes.first().wins(0, far, 0), BAD);
      EDGES.due("wins(0, 1, " + far + ")", Parishes.first().wins(0, 1, far), BAD);
    }
  }

  /** One ticket of ten wins one of n things by n / 10, of as many as there are. */
  private static void winsOfFewer() {
    for (int things = 0; things <= 6; things++) {
      ParishRaffle x = Check.laid("p1;p9;" + "t1,3;".repeat(things));
      for (int n = 1; n <= 6; n++) {
        int many = Math.min(n, things);
        int[] above = {0, 1, 1, 3, 2, 1, 3};
        int[] below = {1, 10, 5, 10, 5, 2, 5};
        wins(x, 0, n, above[many], below[many]);
      }
    }
    // fewer tickets than things: all of them are drawn
    for (int n = 1; n <= 6; n++) {
      ParishRaffle x = Check.laid("p1;p2;" + "t0,1;".repeat(6));
      wins(x, 0, n, n < 3 ? n : 1, n < 3 ? 3 : 1);
    }
  }

  private static void winsForSureAndNever() {
    wins(Parishes.bare(), 0, 1, 0, 1);
    wins(Parishes.bare(), 0, 6, 0, 1);
    wins(Parishes.thingless(), 1, 6, 0, 1);
    wins(Parishes.ticketless(), 2, 6, 0, 1);
    wins(Parishes.brim(), 0, 1, 0, 1);
    wins(Parishes.brim(), 4, 6, 0, 1);
    wins(Parishes.first(), 3, 6, 0, 1);
    wins(Check.laid("p9;t0,1;"), 0, 1, 1, 1);
    wins(Check.laid("p9;p0;t0,1;"), 0, 1, 1, 1);
    wins(Check.laid("p9;p0;t0,1;"), 1, 1, 0, 1);
    // three of four things, and but two tickets of others
    wins(Check.laid("p2;p2;t0,1;t0,1;t0,1;"), 0, 3, 1, 1);
    wins(Check.laid("p2;p2;t0,1;t0,1;t0,1;"), 0, 2, 5, 6);
    // what it has already does not count
    ParishRaffle x = Check.laid("p1;p1;t0,1;t0,1;");
    Check.drawFor(x, 0);
    wins(x, 0, 6, 0, 1);
    wins(x, 1, 1, 1, 1);
  }

  private static void winsOfTheMost() {
    ParishRaffle x = Parishes.untouched();
    // 1 less C(36, n) / C(45, n)
    wins(x, 0, 1, 1, 5);
    wins(x, 4, 2, 4, 11);
    wins(x, 2, 6, 6707, 8815);
    // one ticket of 37 wins one of six by 6 / 37
    wins(Check.laid("p1;p9;p9;p9;p9;" + "t0,1;".repeat(6)), 0, 6, 6, 37);
    // 43 tickets: 1 less C(34, 6) / C(43, 6)
    long ways = 43L * 42 * 41 * 40 * 39 * 38;
    long won = ways - 34L * 33 * 32 * 31 * 30 * 29;
    long divisor = commonDivisor(won, ways);
    ParishRaffle y = Check.laid("p9;p7;p9;p9;p9;" + "t0,1;".repeat(6));
    EDGES.due("wins(0, 6, 0) of 43", y.wins(0, 6, 0), won / divisor);
    EDGES.due("wins(0, 6, 1) of 43", y.wins(0, 6, 1), ways / divisor);
  }

  private static long commonDivisor(long a, long b) {
    return b == 0 ? a : commonDivisor(b, a % b);
  }

  /** The last thing, the last but one, one that was refused. */
  private static void winsOfWhatIsNext() {
    ParishRaffle x = Check.laid("p2;p8;" + "t0,1;".repeat(6));
    Check.drawFor(x, 1, 1, 1, 1);
    wins(x, 0, 1, 1, 3);
    wins(x, 0, 2, 3, 5);
    wins(x, 0, 3, 3, 5);
    Check.drawFor(x, 1);
    wins(x, 0, 1, 2, 5);
    wins(x, 0, 6, 2, 5);
    Check.drawFor(x, 1);
    wins(x, 0, 6, 0, 1);
    x.refuse();
    wins(x, 0, 6, 1, 2);
    x.undo();
    wins(x, 0, 6, 0, 1);
    x.undo();
    x.buy(1, 4);
    wins(x, 0, 6, 2, 9);
    x.hand(1, 0);
    wins(x, 0, 6, 1, 3);
  }

  // promise 17

  private static void mean(ParishRaffle x, int p, long above, long below) {
    EDGES.due("mean(" + p + ", 0)", x.mean(p, 0), above);
    EDGES.due("mean(" + p + ", 1)", x.mean(p, 1), below);
  }

  private static void meanNumbers() {
    for (int persons = 1; persons <= 5; persons++) {
      ParishRaffle x = Check.laid("p3;".repeat(persons) + "t0,0;");
      for (int p = -3; p <= 7; p++) {
        for (int part = -3; part <= 4; part++) {
          boolean is = p >= 0 && p < persons && part >= 0 && part <= 1;
          EDGES.due("mean(" + p + ", " + part + ") of " + persons, x.mean(p, part), !is ? BAD : part == 0 ? 1000 : 1);
        }
      }
      for (int far : Edges.FAR) {
        EDGES.due("mean(" + far + ", 0)", x.mean(far, 0), BAD);
        EDGES.due("mean(0, " + far + ")", x.mean(0, far), BAD);
      }
    }
  }

  private static void meanAtItsEdges() {
    mean(Parishes.bare(), 0, 1000, 1);
    mean(Parishes.thingless(), 1, 1000, 1);
    mean(Parishes.ticketless(), 2, 1000, 1);
    mean(Parishes.first(), 3, 1000, 1);
    String likes = "l0,0,30;l0,1,30;l0,2,30;l0,3,30;l0,4,30;l0,5,30;";
    mean(Check.laid("p9;" + "t1,30;".repeat(6)), 0, 820, 1);
    mean(Check.laid("p6;" + "t2,30;".repeat(6)), 0, 820, 1);
    mean(Check.laid("p9;" + "t3,30;".repeat(6) + likes), 0, 1360, 1);
    // five tickets for six things: the last one stays undrawn
    mean(Check.laid("p5;" + "t1,30;".repeat(6)), 0, 850, 1);
    mean(Check.laid("p1;" + "t1,30;t0,30;"), 0, 970, 1);
    mean(Check.laid("p2;" + "t1,30;t0,30;"), 0, 1000, 1);
    mean(Check.laid("p1;p0;t0,1;t0,30;"), 1, 1000, 1);
    // below 1000, in lowest terms: 7 less by one of three
    mean(Check.laid("p1;p2;t1,7;"), 0, 2993, 3);
    mean(Check.laid("p1;p2;t1,6;"), 0, 998, 1);
  }

  private static void meanOfThePast() {
    // all drawn: what it has
    mean(Parishes.brim(), 0, 1022, 1);
    mean(Parishes.brim(), 1, 994, 1);
    // it has no ticket in the hat: what it has
    ParishRaffle x = Check.laid("p1;p3;t0,5;t0,7;t2,9;");
    Check.drawFor(x, 0);
    mean(x, 0, 1005, 1);
    // 7, less 9 but with the good one: the hat holds 1's alone
    mean(x, 1, 1007, 1);
    x.refuse();
    mean(x, 0, 1000, 1);
    x.buy(0, 1);
    // of four tickets three are drawn: each thing by 1/4, and the frost by itself
    mean(x, 0, 4003, 4);
  }

  /** 45 tickets, six draws: two of a pair by 9/45 8/44, a single thing by 9/45. */
  private static void meanOfTheMost() {
    ParishRaffle x = Check.laid("p9;p9;p9;p9;p9;t3,30;t3,30;l0,0,30;");
    // 60 2/55 and 30/5
    mean(x, 0, 11000 + 66 + 24, 11);
    mean(x, 1, 11000 + 24, 11);
    ParishRaffle y = Check.laid("p9;p9;p9;p9;p9;" + "t0,30;".repeat(6));
    mean(y, 4, 1036, 1);
    ParishRaffle z = Check.laid("p9;p9;p9;p9;p9;" + "t1,30;".repeat(6));
    mean(z, 4, 964, 1);
    // 30 less by 9/45, if none of the five good ones behind the frost is its own
    ParishRaffle w = Check.laid("p9;p9;p9;p9;p9;t2,30;t0,0;t0,0;t0,0;t0,0;t0,0;");
    long ways = 44L * 43 * 42 * 41 * 40;
    long none = 36L * 35 * 34 * 33 * 32;
    long above = 1000 * ways - 6 * none;
    long divisor = commonDivisor(above, ways);
    mean(w, 0, above / divisor, ways / divisor);
  }

  // promise 18

  private static void needs(ParishRaffle x, int p, int n, int tenths, int due) {
    EDGES.due("needs(" + p + ", " + n + ", " + tenths + ")", x.needs(p, n, tenths), due);
  }

  private static void needsNumbers() {
    for (int p = -2; p <= 4; p++) {
      ParishRaffle x = Check.laid("p0;p0;p0;t0,1;");
      for (int n = -1; n <= 8; n++) {
        for (int tenths = -1; tenths <= 12; tenths++) {
          boolean is = p >= 0 && p < 3 && n >= 1 && n <= 6 && tenths >= 1 && tenths <= 10;
          needs(x, p, n, tenths, is ? 1 : BAD);
        }
      }
    }
    // BAD ahead of NONE
    needs(Parishes.brim(), 0, 1, 10, NONE);
    needs(Parishes.brim(), 0, 1, 11, BAD);
    needs(Parishes.brim(), 0, 7, 10, BAD);
    needs(Parishes.brim(), 0, 0, 10, BAD);
    needs(Parishes.brim(), 5, 1, 10, BAD);
    needs(Parishes.brim(), 0, 1, 0, BAD);
    for (int far : Edges.FAR) {
      needs(Parishes.first(), far, 1, 1, BAD);
      needs(Parishes.first(), 0, far, 1, BAD);
      needs(Parishes.first(), 0, 1, far, BAD);
    }
  }

  /** By x of ten just so is enough: own / (own + others), of one draw. */
  private static void needsJustEnough() {
    for (int others = 0; others <= 36; others++) {
      StringBuilder text = new StringBuilder("p0;");
      for (int left = others; left > 0; left -= 9) {
        text.append('p').append(Math.min(left, 9)).append(';');
      }
      ParishRaffle x = Check.laid(text + "t0,1;");
      for (int tenths = 1; tenths <= 10; tenths++) {
        // own (10 - x) >= x others, and one at least
        int due = NONE;
        for (int own = 9; own >= 1; own--) {
          due = own * (10 - tenths) >= tenths * others ? own : due;
        }
        needs(x, 0, 1, tenths, due);
      }
    }
    // 9 of 18 are 5 of ten; of 19 they are not
    needs(Check.laid("p0;p9;t0,1;"), 0, 1, 5, 9);
    needs(Check.laid("p0;p9;p1;t0,1;"), 0, 1, 5, NONE);
    // two draws beside 3: 1 of 4 wins by 5 of ten just so
    needs(Check.laid("p0;p3;t0,1;t0,1;"), 0, 2, 5, 1);
    needs(Check.laid("p0;p3;t0,1;t0,1;"), 0, 2, 6, 2);
  }

  private static void needsInPlaceOfItsOwn() {
    for (int own = 0; own <= 9; own++) {
      ParishRaffle x = Check.laid("p" + own + ";p6;t0,1;t0,1;t0,1;");
      needs(x, 0, 1, 5, 6);
      needs(x, 0, 1, 6, 9);
      needs(x, 0, 1, 7, NONE);
    }
    ParishRaffle y = Check.laid("p9;p6;t0,1;t0,1;t0,1;");
    Check.drawFor(y, 1);
    needs(y, 0, 1, 5, 5);
    y.buy(1, 4);
    needs(y, 0, 1, 5, 9);
    Check.drawFor(y, 0, 0);
    needs(y, 0, 1, 1, NONE);
    y.refuse();
    needs(y, 0, 1, 5, 9);
  }

  private static void needsNone() {
    needs(Parishes.bare(), 0, 6, 1, NONE);
    needs(Parishes.thingless(), 0, 6, 1, NONE);
    needs(Parishes.brim(), 4, 6, 1, NONE);
    needs(Parishes.ticketless(), 0, 1, 10, 1);
    // one of others in the hat, one draw: never for sure; two draws: with one
    needs(Check.laid("p0;p1;t0,1;"), 0, 6, 10, NONE);
    needs(Check.laid("p0;p1;t0,1;"), 0, 1, 9, 9);
    needs(Check.laid("p0;p1;t0,1;t0,1;"), 0, 1, 10, NONE);
    needs(Check.laid("p0;p1;t0,1;t0,1;"), 0, 2, 10, 1);
    // others hold as many as are drawn, or one fewer
    needs(Check.laid("p9;p6;" + "t0,1;".repeat(6)), 0, 6, 10, NONE);
    needs(Check.laid("p9;p5;" + "t0,1;".repeat(6)), 0, 6, 10, 1);
  }

  private static void askingLeavesAll() {
    EDGES.leaves("wins(5, 1, 0)", Parishes::brim, x -> x.wins(5, 1, 0), BAD);
    EDGES.leaves("wins(0, 7, 0)", Parishes::midway, x -> x.wins(0, 7, 0), BAD);
    EDGES.leaves("wins(0, 1, 2)", Parishes::midway, x -> x.wins(0, 1, 2), BAD);
    EDGES.leaves("wins(0, 1, 1)", Parishes::midway, x -> x.wins(0, 1, 1), 7);
    EDGES.leaves("mean(4, 0)", Parishes::midway, x -> x.mean(4, 0), BAD);
    EDGES.leaves("mean(0, 2)", Parishes::midway, x -> x.mean(0, 2), BAD);
    EDGES.leaves("mean(3, 0)", Parishes::midway, x -> x.mean(3, 0), 1000);
    EDGES.leaves("needs(0, 1, 11)", Parishes::midway, x -> x.needs(0, 1, 11), BAD);
    EDGES.leaves("needs(0, 1, 10)", Parishes::midway, x -> x.needs(0, 1, 10), NONE);
    EDGES.leaves("needs(0, 1, 5)", Parishes::midway, x -> x.needs(0, 1, 5), 5);
  }
}
