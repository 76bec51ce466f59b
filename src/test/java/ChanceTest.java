/** Promises 16 to 18: wins, mean, needs. */
public final class ChanceTest {
  private static final int BAD = ParishRaffle.BAD, NONE = ParishRaffle.NONE;
  private static final Check CHECK = new Check();

  public static void main(String[] args) {
    wins();
    winsFromNowOn();
    mean();
    meanOfPairs();
    needs();
    wrongNumbers();
    CHECK.end();
  }

  private static void wins(ParishRaffle x, int p, int n, int above, int below) {
    CHECK.due("wins(" + p + ", " + n + ", 0)", x.wins(p, n, 0), above);
    CHECK.due("wins(" + p + ", " + n + ", 1)", x.wins(p, n, 1), below);
  }

  private static void wins() {
    ParishRaffle x = Check.laid("p2;p3;p0;p1;t0,1;t0,1;t0,1;");
    wins(x, 0, 1, 1, 3);
    wins(x, 1, 1, 1, 2);
    wins(x, 2, 1, 0, 1);
    wins(x, 3, 1, 1, 6);
    // 1 - 4/6 3/5; 1 - 3/6 2/5; then a third draw
    wins(x, 0, 2, 3, 5);
    wins(x, 1, 2, 4, 5);
    wins(x, 0, 3, 4, 5);
    wins(x, 1, 3, 19, 20);
    wins(x, 3, 3, 1, 2);
    // there are but three things
    wins(x, 0, 6, 4, 5);
    ParishRaffle y = Check.laid("p1;p1;t0,1;t0,1;t0,1;");
    wins(y, 0, 1, 1, 2);
    wins(y, 0, 2, 1, 1);
    // the hat is empty behind the second one
    wins(y, 0, 3, 1, 1);
    wins(Check.laid("p4;t0,1;"), 0, 1, 1, 1);
    wins(Check.laid("p4;p4;"), 0, 1, 0, 1);
    wins(Check.laid("p0;p0;t0,1;"), 0, 1, 0, 1);
    // 45 tickets, six draws: 1 - C(36, 6) / C(45, 6)
    wins(Check.laid("p9;p9;p9;p9;p9;t0,1;t0,1;t0,1;t0,1;t0,1;t0,1;"), 4, 6, 6707, 8815);
    // 39 tickets, three of one: 1 - 33 32 31 / 39 38 37
    wins(Check.laid("p3;p9;p9;p9;p9;t0,1;t0,1;t0,1;t0,1;t0,1;t0,1;"), 0, 6, 3683, 9139);
  }

  private static void winsFromNowOn() {
    ParishRaffle x = Check.laid("p2;p3;t0,1;t0,1;t0,1;");
    Check.drawFor(x, 0);
    wins(x, 0, 1, 1, 4);
    wins(x, 0, 6, 1, 2);
    x.buy(0, 4);
    wins(x, 0, 1, 5, 8);
    x.undo();
    x.refuse();
    wins(x, 0, 6, 3, 4);
    Check.drawFor(x, 0, 1, 1);
    wins(x, 1, 6, 0, 1);
  }

  private static void mean(ParishRaffle x, int p, long above, long below) {
    CHECK.due("mean(" + p + ", 0)", x.mean(p, 0), above);
    CHECK.due("mean(" + p + ", 1)", x.mean(p, 1), below);
  }

  private static void mean() {
    ParishRaffle x = Check.laid("p2;p1;p0;t0,6;t1,3;l1,0,2;");
    mean(x, 0, 1002, 1);
    // 1000 + 8/3 - 3/3
    mean(x, 1, 3005, 3);
    mean(x, 2, 1000, 1);
    Check.drawFor(x, 1);
    mean(x, 0, 997, 1);
    mean(x, 1, 1008, 1);
    x.give(0, 0);
    mean(x, 0, 1003, 1);
    mean(Check.laid("p4;"), 0, 1000, 1);
    mean(Check.laid("p0;t0,4;"), 0, 1000, 1);
    // one ticket for two things: the second one stays undrawn
    mean(Check.laid("p1;t0,4;t0,9;"), 0, 1004, 1);
    // both ways for the first one, the second draw empties the hat: 4/2 + 8/2
    mean(Check.laid("p1;p1;t0,4;t0,8;t1,30;"), 0, 1006, 1);
    mean(Check.laid("p1;p1;t1,30;t1,30;"), 0, 970, 1);
  }

  private static void meanOfPairs() {
    // tickets 2 and 2: both with 0 by 2/4 1/3, then 5 and 7 are worth something
    ParishRaffle x = Check.laid("p2;p2;t3,5;t3,7;");
    mean(x, 0, 1002, 1);
    // 0 has the frost by 1/2: with the good one by 1/3 of that it is worth 0, else -6
    ParishRaffle y = Check.laid("p2;p2;t2,6;t0,4;");
    mean(y, 0, 1000, 1);
    // the good one that it has counts, too
    ParishRaffle z = Check.laid("p2;p2;t0,4;t2,6;");
    Check.drawFor(z, 0);
    mean(z, 0, 1004, 1);
    mean(z, 1, 996, 1);
    // and so does the pair's first one
    ParishRaffle w = Check.laid("p2;p2;t3,5;t3,7;l0,0,1;l0,1,3;");
    Check.drawFor(w, 0);
    mean(w, 0, 1006, 1);
    mean(w, 1, 1000, 1);
  }

  private static void needs(ParishRaffle x, int p, int n, int tenths, int due) {
    CHECK.due("needs(" + p + ", " + n + ", " + tenths + ")", x.needs(p, n, tenths), due);
  }

  private static void needs() {
    ParishRaffle x = Check.laid("p9;p3;t0,1;t0,1;");
    // beside 3 others: 3 of 6 are 5 of ten, 7 of 10 are 7
    needs(x, 0, 1, 5, 3);
    needs(x, 0, 1, 6, 5);
    needs(x, 0, 1, 7, 7);
    needs(x, 0, 1, 8, NONE);
    needs(x, 0, 1, 1, 1);
    // two draws: 1 ticket wins by 2/4; 2 by 1 - 3/5 2/4; 4 by 1 - 3/7 2/6
    needs(x, 0, 2, 5, 1);
    needs(x, 0, 2, 7, 2);
    needs(x, 0, 2, 8, 3);
    needs(x, 0, 2, 10, NONE);
    needs(x, 0, 6, 7, 2);
    // beside 9 others: one's own tickets do not count
    needs(x, 1, 1, 5, 9);
    needs(x, 1, 1, 6, NONE);
    needs(x, 1, 1, 1, 1);
    ParishRaffle alone = Check.laid("p0;p0;t0,1;");
    needs(alone, 0, 1, 10, 1);
    alone.buy(1, 1);
    needs(alone, 0, 1, 10, NONE);
    ParishRaffle two = Check.laid("p5;p1;t0,1;t0,1;");
    needs(two, 0, 2, 10, 1);
    Check.drawFor(two, 1);
    needs(two, 0, 2, 10, 1);
    Check.drawFor(two, 0);
    needs(two, 0, 1, 1, NONE);
    needs(Check.laid("p5;"), 0, 6, 1, NONE);
  }

  private static void wrongNumbers() {
    ParishRaffle x = Check.laid("p4;p5;t0,9;");
    int[] odd = {-1, Integer.MIN_VALUE, Integer.MAX_VALUE, 2};
    for (int i : odd) {
      CHECK.due("wins(" + i + ", 1, 0)", x.wins(i, 1, 0), BAD);
      CHECK.due("wins(0, 1, " + i + ")", x.wins(0, 1, i), BAD);
      CHECK.due("mean(" + i + ", 0)", x.mean(i, 0), BAD);
      CHECK.due("mean(0, " + i + ")", x.mean(0, i), BAD);
      CHECK.due("needs(" + i + ", 1, 1)", x.needs(i, 1, 1), BAD);
    }
    int[] none = {-1, 0, 7, Integer.MAX_VALUE};
    for (int i : none) {
      CHECK.due("wins(0, " + i + ", 0)", x.wins(0, i, 0), BAD);
      CHECK.due("needs(0, " + i + ", 1)", x.needs(0, i, 1), BAD);
    }
    CHECK.due("needs(0, 1, 0)", x.needs(0, 1, 0), BAD);
    CHECK.due("needs(0, 1, 11)", x.needs(0, 1, 11), BAD);
    CHECK.due("needs(0, 1, -1)", x.needs(0, 1, -1), BAD);
  }
}
