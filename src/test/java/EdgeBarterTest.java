/** The edges of promises 19 to 23: swaps, gives, share, envy, ring. */
public final class EdgeBarterTest {
  private static final int BAD = ParishRaffle.BAD, NONE = ParishRaffle.NONE;
  private static final String FIVE = "p9;p9;p9;p9;p9;";
  private static final String SIX = "t0,1;t0,1;t0,1;t0,1;t0,1;t0,1;";
  private static final Edges EDGES = new Edges();

  public static void main(String[] args) {
    nothingToBarter();
    swapsOfEachTwo();
    swapsByOneMore();
    swapsOfUnlikePersons();
    givesOfEach();
    givesByOneMore();
    shareNumbers();
    shareOfNothingAndAll();
    shareAtItsEdges();
    shareOfEqualWays();
    envyOfEachTwo();
    envyByOneMore();
    ringOfEachLength();
    ringOfFewest();
    askingLeavesAll();
    EDGES.end();
  }

  private static ParishRaffle with(String text, int... owners) {
    ParishRaffle x = Check.laid(text);
    Check.drawFor(x, owners);
    return x;
  }

  /** No thing, no ticket, nothing drawn, one person: there is none. */
  private static void nothingToBarter() {
    ParishRaffle[] all = {Parishes.bare(), Parishes.thingless(), Parishes.ticketless(), Parishes.first(),
      Parishes.untouched(), Check.laid("p9;t0,1;"), with("p9;t0,5;t1,9;t2,9;t3,4;t3,4;t1,30;", 0, 0, 0, 0, 0, 0)};
    for (ParishRaffle x : all) {
      EDGES.due("swaps()", x.swaps(), NONE);
      EDGES.due("gives()", x.gives(), NONE);
      EDGES.due("envy()", x.envy(), NONE);
      EDGES.due("ring()", x.ring(), NONE);
    }
    // drawn and refused again
    ParishRaffle y = with("p9;p9;t0,5;t1,5;l1,0,9;", 0);
    EDGES.due("envy() at first", y.envy(), 10);
    y.refuse();
    EDGES.due("envy(), it being refused", y.envy(), NONE);
    EDGES.due("gives(), it being refused", y.gives(), NONE);
    EDGES.due("share(-1), it being refused", y.share(-1), 1000);
    EDGES.due("share(0), it being refused", y.share(0), NONE);
  }

  // promise 19

  /** Person t has thing t, and 0 has thing 5, too; all are worth 1. */
  private static ParishRaffle six(String likes) {
    return with(FIVE + SIX + likes, 0, 1, 2, 3, 4, 0);
  }

  private static int owner(int t) {
    return t % 5;
  }

  private static String likes(int p, int t, int more) {
    return "l" + p + "," + t + "," + more + ";";
  }

  /** Each two things, the first and the last ones too; of several the first two. */
  private static void swapsOfEachTwo() {
    for (int t = 0; t < 6; t++) {
      for (int u = t + 1; u < 6; u++) {
        String both = likes(owner(t), u, 1) + likes(owner(u), t, 1);
        EDGES.due("swaps() of " + t + " and " + u, six(both).swaps(), owner(t) == owner(u) ? NONE : 10 * t + u);
        EDGES.due("swaps(), the one not liking it", six(likes(owner(t), u, 1)).swaps(), NONE);
        EDGES.due("swaps(), the other one not liking it", six(likes(owner(u), t, 1)).swaps(), NONE);
      }
    }
    String three = likes(2, 4, 1) + likes(4, 2, 1) + likes(1, 4, 1) + likes(4, 1, 1);
    EDGES.due("swaps(), by the lower one", six(three).swaps(), 14);
    EDGES.due("swaps(), then by the other", six(three + likes(1, 3, 1) + likes(3, 1, 1)).swaps(), 13);
  }

  /** More to both: as much is not more, 1 is. */
  private static void swapsByOneMore() {
    for (int a = 0; a <= 3; a++) {
      for (int b = 0; b <= 3; b++) {
        ParishRaffle x = with("p9;p9;t0,5;t0,5;l0,0,1;l1,1,1;" + likes(0, 1, a) + likes(1, 0, b), 0, 1);
        EDGES.due("swaps() of " + a + ", " + b, x.swaps(), a > 1 && b > 1 ? 1 : NONE);
      }
    }
  }

  private static void swapsOfUnlikePersons() {
    EDGES.due("swaps(), one has both", with("p9;p9;t0,1;t0,1;l1,0,9;l1,1,9;", 0, 0).swaps(), NONE);
    EDGES.due("swaps() of a single bad one", with(FIVE + "t1,9;", 0).swaps(), NONE);
    EDGES.due("swaps(), one is not drawn", with("p9;p9;t0,1;t0,1;l0,1,9;l1,0,9;", 0).swaps(), NONE);
    ParishRaffle x = with("p9;p9;t0,1;t0,1;l0,1,9;l1,0,9;", 0, 1);
    EDGES.due("swaps()", x.swaps(), 1);
    x.swap(0, 1);
    EDGES.due("swaps() behind it", x.swaps(), NONE);
    x.undo();
    x.refuse();
    EDGES.due("swaps(), one being refused", x.swaps(), NONE);
  }

  // promise 20

  /** A thing of no worth, liked by one person: each thing, each person. */
  private static void givesOfEach() {
    for (int t = 0; t < 6; t++) {
      for (int p = 0; p < 5; p++) {
        ParishRaffle x = with(FIVE + "t0,0;t0,0;t0,0;t0,0;t0,0;t0,0;" + likes(p, t, 1), 0, 1, 2, 3, 4, 0);
        EDGES.due("gives() of " + t + " to " + p, x.gives(), owner(t) == p ? NONE : 10 * t + p);
      }
    }
    String zeros = FIVE + "t0,0;t0,0;t0,0;t0,0;t0,0;t0,0;";
    EDGES.due("gives(), by the thing", with(zeros + "l0,4,1;l4,3,1;", 0, 1, 2, 3, 3, 0).gives(), 34);
    EDGES.due("gives(), then by whom", with(zeros + "l4,3,9;l2,3,1;", 0, 1, 2, 3, 3, 0).gives(), 32);
    EDGES.due("gives(), not drawn", with(zeros + "l4,3,9;", 0, 1, 2).gives(), NONE);
  }

  /** Neither has less, one has more: by how much giver and taker gain. */
  private static void givesByOneMore() {
    for (int a = 0; a <= 8; a++) {
      for (int b = 0; b <= 8; b++) {
        // the thing is worth a - 4 to 0, who has it, and b - 4 to 1
        ParishRaffle x = with("p9;p9;t1,4;" + likes(0, 0, a) + likes(1, 0, b), 0);
        boolean better = a <= 4 && b >= 4 && (a < 4 || b > 4);
        EDGES.due("gives() of " + a + ", " + b, x.gives(), better ? 1 : NONE);
      }
    }
    EDGES.due("gives() of worth 0 to both", with("p9;p9;t1,4;l0,0,4;l1,0,4;", 0).gives(), NONE);
    EDGES.due("gives() of worth 0, then 1", with("p9;p9;t1,4;l0,0,4;l1,0,5;", 0).gives(), 1);
    EDGES.due("gives() of worth -1, then 0", with("p9;p9;t1,4;l0,0,3;l1,0,4;", 0).gives(), 1);
    EDGES.due("gives() of worth -1, then 1", with("p9;p9;t1,4;l0,0,3;l1,0,5;", 0).gives(), 1);
    EDGES.due("gives() of worth -1, then -1", with("p9;p9;t1,4;l0,0,3;l1,0,3;", 0).gives(), NONE);
    EDGES.due("gives() of worth 1, then 30", with("p9;p9;t1,4;l0,0,5;l1,0,30;", 0).gives(), NONE);
    // the lowest answer that there is: thing 0 to person 0
    EDGES.due("gives() of 0 to 0", with("p9;p9;t1,4;l0,0,4;", 1).gives(), 0);
    // its good one keeps the frost warm: not to be given away
    EDGES.due("gives() of what warms", with("p9;p9;t0,0;t2,4;l1,0,9;", 0, 0).gives(), NONE);
    EDGES.due("gives() of one of three of a kind", with("p9;p9;t3,0;t3,0;t3,0;l1,0,1;", 0, 0, 0).gives(), 1);
  }

  // promise 21

  private static void shareNumbers() {
    for (int things = 0; things <= 6; things++) {
      ParishRaffle x = Check.laid("p9;" + "t0,2;".repeat(things));
      for (int drawn = 0; drawn <= things; drawn++) {
        for (int t = -4; t <= 8; t++) {
          int due = t == -1 ? 1000 + 2 * drawn : t < 0 || t >= things ? BAD : t < drawn ? 0 : NONE;
          EDGES.due("share(" + t + ") of " + drawn + " of " + things, x.share(t), due);
        }
        x.draw(0);
      }
    }
    for (int far : Edges.FAR) {
      EDGES.due("share(" + far + ")", Parishes.brim().share(far), BAD);
    }
  }

  private static void shareOfNothingAndAll() {
    EDGES.due("bare: share(-1)", Parishes.bare().share(-1), 1000);
    EDGES.due("bare: share(0)", Parishes.bare().share(0), BAD);
    EDGES.due("untouched: share(-1)", Parishes.untouched().share(-1), 1000);
    EDGES.due("untouched: share(5)", Parishes.untouched().share(5), NONE);
    // 0 to 3 by 40, 1 to 4 by 21, 2 (one of a pair) to 0 by 30, 3 to 0 by 19, 4 to 1 by 26, 5 to 2 by 30
    ParishRaffle x = Parishes.brim();
    EDGES.due("brim: share(-1)", x.share(-1), 1166);
    int[] whom = {3, 4, 0, 0, 1, 2};
    for (int t = 0; t < 6; t++) {
      EDGES.due("brim: share(" + t + ")", x.share(t), whom[t]);
    }
  }

  private static void share(String text, int[] owners, int sum, int... due) {
    ParishRaffle x = with(text, owners);
    EDGES.due("share(-1) of " + text, x.share(-1), sum);
    for (int t = 0; t < due.length; t++) {
      EDGES.due("share(" + t + ") of " + text, x.share(t), due[t]);
    }
  }

  private static int[] by(int... owners) {
    return owners;
  }

  private static void shareAtItsEdges() {
    int[] zeros = by(0, 0, 0, 0, 0, 0);
    share("p9;" + "t1,30;".repeat(6), zeros, 820, 0, 0, 0, 0, 0, 0);
    share(FIVE + "t1,30;".repeat(6), zeros, 820, 0, 0, 0, 0, 0, 0);
    share(FIVE + "t0,30;".repeat(6) + "l4,0,30;l4,1,30;l4,2,30;l4,3,30;l4,4,30;l4,5,30;", zeros, 1360,
        4, 4, 4, 4, 4, 4);
    share(FIVE + "t3,30;".repeat(6) + "l4,0,30;l4,1,30;l4,2,30;l3,3,30;l3,4,30;l3,5,30;", zeros, 1360,
        4, 4, 4, 3, 3, 3);
    // each thing with the one who likes it, by 1
    share(FIVE + SIX + "l4,0,1;l3,1,1;l2,2,1;l1,3,1;l0,4,1;l4,5,1;", zeros, 1012, 4, 3, 2, 1, 0, 4);
    // a worth below 1000 in which but one way is best
    share("p9;p9;p9;t1,30;t2,30;t1,30;l2,0,1;l1,1,1;l2,2,1;", by(0, 0, 0), 913, 2, 1, 2);
  }

  private static void shareOfEqualWays() {
    // as good with any of them: the lowest person; as good with 1 and 3: with 1
    share(FIVE + SIX, by(4, 4, 4, 4, 4, 4), 1006, 0, 0, 0, 0, 0, 0);
    share(FIVE + SIX + "l1,5,2;l3,5,2;", by(4, 4, 4, 4, 4, 4), 1008, 0, 0, 0, 0, 0, 1);
    share(FIVE + SIX + "l1,0,2;l3,0,2;", by(4, 4, 4, 4, 4, 4), 1008, 1, 0, 0, 0, 0, 0);
    // both of the pair with 1 or 3; 1 goes ahead, whoever has the frost and the good one
    share(FIVE + "t3,4;t3,4;t2,5;t0,5;l1,0,1;l3,0,1;l2,3,1;", by(0, 0, 0, 0), 1015, 1, 1, 2, 2);
    // the lowest thing counts first: thing 0 with 0, though then 1 must be with 1
    share("p9;p9;t3,3;t3,3;l0,0,5;l1,1,6;l1,0,5;", by(0, 0), 1017, 1, 1);
    share("p9;p9;t3,0;t3,0;l0,0,5;l1,1,6;l1,0,5;", by(0, 0), 1011, 0, 1);
  }

  // promise 22

  private static void envyOfEachTwo() {
    for (int p = 0; p < 5; p++) {
      for (int q = 0; q < 5; q++) {
        ParishRaffle x = with(FIVE + "t0,1;t0,1;t0,1;t0,1;t0,1;" + likes(p, q, 1), 0, 1, 2, 3, 4);
        EDGES.due("envy() of " + p + ", " + q, x.envy(), p == q ? NONE : 10 * p + q);
      }
    }
    ParishRaffle y = with(FIVE + "t0,1;t0,1;t0,1;t0,1;t0,1;l3,4,1;l2,4,1;l2,3,1;", 0, 1, 2, 3, 4);
    EDGES.due("envy(), the first of three", y.envy(), 23);
  }

  private static void envyByOneMore() {
    for (int a = 0; a <= 6; a++) {
      EDGES.due("envy() of " + a, with("p9;p9;t0,3;t0," + a + ";l1,1,30;", 0, 1).envy(), a > 3 ? 1 : NONE);
      // one who has nothing envies what is worth more than 0, one who has what is worth less
      EDGES.due("envy() of nothing", with("p9;p9;t1,3;l1,0,30;" + likes(0, 0, a), 1).envy(), a > 3 ? 1 : NONE);
      EDGES.due("envy() of less than nothing", with("p9;p9;t1,3;" + likes(0, 0, a), 0).envy(), a < 3 ? 1 : NONE);
    }
    // both of the pair, which the other one has, by one's own likes
    EDGES.due("envy() of a pair", with("p9;p9;t3,2;t3,2;t0,4;l1,2,1;", 0, 0, 1).envy(), NONE);
    EDGES.due("envy() of a better pair", with("p9;p9;t3,2;t3,3;t0,4;", 0, 0, 1).envy(), 10);
  }

  // promise 23

  private static String ringOf(int... persons) {
    StringBuilder s = new StringBuilder();
    for (int i = 0; i < persons.length; i++) {
      s.append(likes(persons[i], persons[(i + 1) % persons.length], 1));
    }
    return s.toString();
  }

  private static int ring(String likes) {
    return with(FIVE + "t0,1;t0,1;t0,1;t0,1;t0,1;" + likes, 0, 1, 2, 3, 4).ring();
  }

  private static void ringOfEachLength() {
    EDGES.due("ring() of none", ring(""), NONE);
    EDGES.due("ring() of one, who likes its own", ring(ringOf(3)), NONE);
    EDGES.due("ring() of 0, 1", ring(ringOf(0, 1)), 2);
    EDGES.due("ring() of 3, 4", ring(ringOf(3, 4)), 2);
    EDGES.due("ring() of 4, 0", ring(ringOf(4, 0)), 2);
    EDGES.due("ring() of 0, 1, 2", ring(ringOf(0, 1, 2)), 3);
    EDGES.due("ring() of 4, 3, 2", ring(ringOf(4, 3, 2)), 3);
    EDGES.due("ring() of 1, 3, 2, 4", ring(ringOf(1, 3, 2, 4)), 4);
    EDGES.due("ring() of all", ring(ringOf(0, 1, 2, 3, 4)), 5);
    EDGES.due("ring() of all, backwards", ring(ringOf(4, 3, 2, 1, 0)), 5);
    // a row that does not come back
    EDGES.due("ring() of a row", ring("l0,1,1;l1,2,1;l2,3,1;l3,4,1;"), NONE);
    EDGES.due("ring() of a row backwards", ring("l4,3,1;l3,2,1;l2,1,1;l1,0,1;"), NONE);
    EDGES.due("ring(), all envying one", ring("l0,4,1;l1,4,1;l2,4,1;l3,4,1;"), NONE);
    ParishRaffle x = with("p9;p9;t0,1;t0,1;l0,1,1;l1,0,1;", 0, 1);
    EDGES.due("ring() of two persons", x.ring(), 2);
    x.swap(0, 1);
    EDGES.due("ring(), both having what they like", x.ring(), NONE);
    x.undo();
    EDGES.due("ring(), the swap undone", x.ring(), 2);
  }

  private static void ringOfFewest() {
    EDGES.due("ring() of 5 and 2", ring(ringOf(0, 1, 2, 3, 4) + "l4,3,1;"), 2);
    EDGES.due("ring() of 5 and 3", ring(ringOf(0, 1, 2, 3, 4) + "l4,2,1;"), 3);
    EDGES.due("ring() of 5 and 4", ring(ringOf(0, 1, 2, 3, 4) + "l4,1,1;"), 4);
    EDGES.due("ring() of 2 and 3, apart", ring(ringOf(0, 1, 2) + ringOf(3, 4)), 2);
    EDGES.due("ring() of 2 and 2, joined", ring(ringOf(0, 1) + ringOf(1, 2)), 2);
    EDGES.due("ring() of 3 and 3, joined", ring(ringOf(0, 1, 2) + ringOf(2, 3, 4)), 3);
  }

  private static void askingLeavesAll() {
    EDGES.leaves("swaps()", Parishes::brim, ParishRaffle::swaps, 2);
    EDGES.leaves("gives()", Parishes::brim, ParishRaffle::gives, 12);
    EDGES.leaves("share(-1)", Parishes::brim, x -> x.share(-1), 1166);
    EDGES.leaves("share(5)", Parishes::brim, x -> x.share(5), 2);
    EDGES.leaves("share(6)", Parishes::brim, x -> x.share(6), BAD);
    EDGES.leaves("share(-2)", Parishes::brim, x -> x.share(-2), BAD);
    EDGES.leaves("envy()", Parishes::brim, ParishRaffle::envy, 2);
    EDGES.leaves("ring()", Parishes::brim, ParishRaffle::ring, 2);
    EDGES.leaves("share(3), it is next", Parishes::midway, x -> x.share(3), NONE);
    EDGES.leaves("swaps() of none", Parishes::first, ParishRaffle::swaps, NONE);
  }
}
