/** Promises 28 to 30: year, keep, back. */
public final class YearTest {
  private static final int BAD = ParishRaffle.BAD, NO = ParishRaffle.NO, FULL = ParishRaffle.FULL;
  private static final Check CHECK = new Check();

  public static void main(String[] args) {
    yearByHand();
    yearsByActs();
    yearChangesNothing();
    wrongYears();
    keepAndBack();
    backKeepsRefusals();
    whatIsNotKept();
    CHECK.end();
  }

  /** DRAW of the k-th turn of year z. */
  private static int turn(int z, int k) {
    long x = 7919L * z + 6151L * k + 1;
    return (int) (x * x % 65521);
  }

  /** Years 6 and 33 begin with these, which are 0, 1, 0, 2 and 0, 1, 2, 2 modulo 4. */
  private static void yearByHand() {
    int[] sixth = {18128, 64001, 37200, 3246};
    int[] other = {47368, 14701, 40402, 58950};
    for (int k = 0; k < 4; k++) {
      CHECK.due("DRAW " + k + " of 6", turn(6, k), sixth[k]);
      CHECK.due("DRAW " + k + " of 33", turn(33, k), other[k]);
    }
    ParishRaffle x = Check.laid("p2;p2;p6;t0,7;t0,7;l0,0,1;l1,0,2;l2,0,4;l0,1,8;l1,1,10;l2,1,20;");
    // 4532 modulo 10 is 2: drawn by 1
    CHECK.due("year(6, 1, 0)", x.year(6, 1, 0), 1);
    CHECK.due("year(6, 1, 1)", x.year(6, 1, 1), 1009);
    // 16000 modulo 3 is 1, who buys 1000 modulo 3 and 1, so there are 11: 9300 modulo 11 is 5
    CHECK.due("year(6, 2, 0)", x.year(6, 2, 0), 1);
    CHECK.due("year(6, 3, 0)", x.year(6, 3, 0), 2);
    CHECK.due("year(6, 3, 1)", x.year(6, 3, 1), 1036);
    // the first one is passed over, the hat being empty
    ParishRaffle y = Check.laid("p0;t0,7;");
    CHECK.due("year(6, 2, 0) of an empty hat", y.year(6, 2, 0), 0);
    CHECK.due("year(6, 2, 1) of an empty hat", y.year(6, 2, 1), 1000);
    CHECK.due("year(6, 3, 0) of an empty hat", y.year(6, 3, 0), 1);
    CHECK.due("year(6, 3, 1) of an empty hat", y.year(6, 3, 1), 1007);
    // drawn by 11842 modulo 10, given to 631 modulo 3, who has it, then to 921 modulo 3
    ParishRaffle z = Check.laid("p2;p2;p6;t0,7;l0,0,1;l1,0,2;l2,0,4;");
    CHECK.due("year(33, 1, 1)", z.year(33, 1, 1), 1009);
    CHECK.due("year(33, 3, 1)", z.year(33, 3, 1), 1009);
    CHECK.due("year(33, 4, 1)", z.year(33, 4, 1), 1008);
  }

  /** The same year by acts alone. */
  private static void yearsByActs() {
    String[] texts = {"p3;p1;p5;p0;p2;t0,12;t1,8;t3,10;t2,6;t3,7;t0,3;l0,0,4;l1,2,6;l2,1,5;l3,0,20;",
      "p0;p0;t2,9;t0,4;t3,5;t3,5;l0,3,1;", "p9;p9;", "p0;t1,30;t1,20;"};
    for (String text : texts) {
      for (int z = 0; z < 10000; z += 303) {
        ParishRaffle still = Check.laid(text);
        ParishRaffle x = Check.laid(text);
        for (int k = 0; k < 60; k++) {
          act(x, turn(z, k));
          if (k % 7 == 0 || k == 59) {
            String call = "year(" + z + ", " + (k + 1) + ", ";
            CHECK.due(call + "0) of " + text, still.year(z, k + 1, 0), x.count(4));
            CHECK.due(call + "1) of " + text, still.year(z, k + 1, 1), x.count(5));
          }
        }
      }
    }
  }

  private static void act(ParishRaffle x, int draw) {
    if (draw % 4 == 0 && x.count(2) > 0) {
      x.draw(draw / 4 % x.count(2));
    } else if (draw % 4 == 1) {
      x.buy(draw / 4 % x.count(0), draw / 64 % 3 + 1);
    } else if (draw % 4 == 2 && x.count(1) > 0) {
      x.give(draw / 4 % x.count(1), draw / 64 % x.count(0));
    }
  }

  private static void yearChangesNothing() {
    ParishRaffle x = new ParishRaffle();
    x.draw(0);
    x.note(1);
    x.keep();
    x.year(77, 60, 1);
    int[] counts = {5, 6, 10, 1, 1, 1016, 1, 1, 1, 0};
    for (int what = 0; what < counts.length; what++) {
      CHECK.due("count(" + what + ") behind a year", x.count(what), counts[what]);
    }
    CHECK.due("refuse() behind a year", x.refuse(), 0);
  }

  private static void wrongYears() {
    ParishRaffle x = new ParishRaffle();
    CHECK.due("year(-1, 1, 0)", x.year(-1, 1, 0), BAD);
    CHECK.due("year(10000, 1, 0)", x.year(10000, 1, 0), BAD);
    CHECK.due("year(0, 0, 0)", x.year(0, 0, 0), BAD);
    CHECK.due("year(0, 61, 0)", x.year(0, 61, 0), BAD);
    CHECK.due("year(0, -1, 0)", x.year(0, -1, 0), BAD);
    CHECK.due("year(0, 1, 2)", x.year(0, 1, 2), BAD);
    CHECK.due("year(0, 1, -1)", x.year(0, 1, -1), BAD);
    CHECK.due("year(most, most, 0)", x.year(Integer.MAX_VALUE, Integer.MAX_VALUE, 0), BAD);
  }

  private static void keepAndBack() {
    ParishRaffle x = Check.laid("p3;p2;t0,5;t0,6;t0,7;");
    CHECK.due("back() of nothing", x.back(), NO);
    CHECK.due("keep()", x.keep(), 1);
    x.draw(0);
    x.buy(1, 4);
    CHECK.due("keep() again", x.keep(), 2);
    x.give(0, 1);
    x.hand(0, 1);
    CHECK.due("keep(), one too many", x.keep(), FULL);
    CHECK.due("count(8)", x.count(8), 2);
    CHECK.due("count(7)", x.count(7), 4);
    CHECK.due("back()", x.back(), 1);
    CHECK.due("count(7): nothing to undo", x.count(7), 0);
    CHECK.due("undo()", x.undo(), NO);
    CHECK.due("thing(0, 2)", x.thing(0, 2), 0);
    CHECK.due("person(0, 0)", x.person(0, 0), 2);
    CHECK.due("person(1, 0)", x.person(1, 0), 6);
    CHECK.due("count(3)", x.count(3), 1);
    x.draw(0);
    CHECK.due("count(7): what came since", x.count(7), 1);
    CHECK.due("keep() of this in its place", x.keep(), 2);
    x.draw(0);
    CHECK.due("back() to it", x.back(), 1);
    CHECK.due("count(4)", x.count(4), 2);
    CHECK.due("back() to the first", x.back(), 0);
    CHECK.due("count(4) at first", x.count(4), 0);
    CHECK.due("count(2) at first", x.count(2), 5);
    CHECK.due("count(3) at first", x.count(3), 0);
    CHECK.due("person(0, 2) at first", x.person(0, 2), 0);
    CHECK.due("back(), nothing being left", x.back(), NO);
    CHECK.due("count(8) in the end", x.count(8), 0);
  }

  private static void backKeepsRefusals() {
    ParishRaffle x = Check.laid("p9;p2;t0,5;t0,6;t0,7;");
    x.draw(0);
    x.keep();
    x.refuse();
    x.draw(0);
    x.keep();
    x.draw(0);
    x.back();
    CHECK.due("refuse() of what was refused when kept", x.refuse(), NO);
    x.back();
    CHECK.due("refuse() of what was not refused when kept", x.refuse(), 0);
  }

  private static void whatIsNotKept() {
    ParishRaffle x = Check.laid("p9;p2;t0,5;");
    x.note(0);
    x.keep();
    x.note(1);
    x.note(1);
    x.wipe();
    Check.write(x, "p5;");
    CHECK.due("back()", x.back(), 0);
    CHECK.due("count(6): notes stay", x.count(6), 3);
    CHECK.due("count(9): the text stays", x.count(9), 3);
    x.draw(0);
    x.keep();
    CHECK.due("undo() behind keep()", x.undo(), 0);
    CHECK.due("count(8): what is kept stays by undo()", x.count(8), 1);
    CHECK.due("lay()", x.lay(), 1);
    CHECK.due("back() behind lay()", x.back(), NO);
    CHECK.due("count(0)", x.count(0), 1);
  }
}
