/** Promises 19 to 23: swaps, gives, share, envy, ring. */
public final class BarterTest {
  private static final int BAD = ParishRaffle.BAD, NONE = ParishRaffle.NONE;
  private static final Check CHECK = new Check();

  public static void main(String[] args) {
    swaps();
    gives();
    share();
    shareOfSeveral();
    envy();
    ring();
    longRings();
    nothingChanges();
    CHECK.end();
  }

  private static ParishRaffle with(String text, int... owners) {
    ParishRaffle x = Check.laid(text);
    Check.drawFor(x, owners);
    return x;
  }

  private static void swaps(String text, int due, int... owners) {
    CHECK.due("swaps() of " + text, with(text, owners).swaps(), due);
  }

  private static void swaps() {
    swaps("p9;p9;t0,3;t0,3;l0,1,1;l1,0,1;", 1, 0, 1);
    swaps("p9;p9;t0,3;t0,3;l0,1,1;l1,0,1;", NONE, 1, 0);
    swaps("p9;p9;t0,3;t0,3;l0,0,1;l1,1,1;", 1, 1, 0);
    swaps("p9;p9;t0,3;t0,3;l0,1,1;", NONE, 0, 1);
    swaps("p9;p9;t0,3;t0,3;l1,0,1;", NONE, 0, 1);
    swaps("p9;p9;t0,3;t0,3;l0,1,1;l1,0,1;", NONE, 0, 0);
    swaps("p9;p9;t0,3;t0,3;l0,1,1;l1,0,1;", NONE, 0);
    swaps("p9;p9;t0,3;t0,3;l0,0,1;l1,1,1;", NONE, 0, 1);
    // the lower one first, then the other
    swaps("p9;p9;p9;t0,1;t0,1;t0,1;t0,1;l0,3,2;l0,2,2;l1,0,2;l2,0,2;l1,1,0;", 2, 0, 0, 1, 2);
    swaps("p9;p9;p9;t0,1;t0,1;t0,1;l1,2,2;l2,1,2;l0,2,2;", 12, 0, 1, 2);
    // a pair made: 1's second glove for 0's spade, by which its frost is worth 0
    swaps("p9;p9;t3,5;t3,6;t0,4;t2,9;", 12, 0, 1, 0, 1);
    // worth of all that one has counts: giving the good one away, one has the frost's again
    swaps("p9;p9;t0,3;t2,20;t1,1;l0,2,5;l1,0,5;", NONE, 0, 0, 1);
  }

  private static void gives(String text, int due, int... owners) {
    CHECK.due("gives() of " + text, with(text, owners).gives(), due);
  }

  private static void gives() {
    gives("p9;p9;t0,3;", NONE, 0);
    gives("p9;p9;t1,3;", NONE, 0);
    gives("p9;p9;p9;p9;p9;t0,3;", NONE, 4);
    gives("p9;p9;p9;p9;p9;t1,3;l4,0,3;", 4, 3);
    // worth 0 to who gets it, less than 0 to who has it
    gives("p9;p9;t1,3;l1,0,3;", 1, 0);
    gives("p9;p9;p9;t1,3;l2,0,3;", 2, 0);
    gives("p9;p9;p9;t1,3;l0,0,3;l2,0,4;", 0, 1);
    // worth 0 to who has it
    gives("p9;p9;t0,0;l1,0,1;", 1, 0);
    gives("p9;p9;t0,0;l0,0,1;", 0, 1);
    gives("p9;p9;t0,0;", NONE, 0);
    // both are better off
    gives("p9;p9;t1,3;l1,0,9;", 1, 0);
    // a lone one of a pair, to who has the other
    gives("p9;p9;t3,3;t3,4;", 1, 0, 1);
    gives("p9;p9;t3,3;t3,4;l0,0,1;", 10, 0, 1);
    gives("p9;p9;t3,3;t3,4;l0,0,1;l1,1,1;", NONE, 0, 1);
    // frost to who has a good one
    gives("p9;p9;p9;t0,3;t2,4;", 10, 0, 1);
    gives("p9;p9;p9;t0,3;t2,4;", NONE, 0, 0);
    // not drawn
    gives("p9;p9;t1,3;l1,0,3;", NONE);
  }

  private static void share(String text, int[] owners, int sum, int... due) {
    ParishRaffle x = with(text, owners);
    CHECK.due("share(-1) of " + text, x.share(-1), sum);
    for (int t = 0; t < due.length; t++) {
      CHECK.due("share(" + t + ") of " + text, x.share(t), due[t]);
    }
  }

  private static int[] by(int... owners) {
    return owners;
  }

  private static void share() {
    share("p9;p9;", by(), 1000);
    share("p9;p9;t0,3;", by(), 1000, NONE, BAD);
    share("p9;p9;t0,3;l1,0,2;", by(0), 1005, 1, BAD);
    share("p9;p9;t1,3;l1,0,2;", by(0), 999, 1);
    share("p9;p9;p9;t0,3;t2,9;t3,2;t3,4;t1,1;l2,0,2;l2,4,1;", by(0, 0, 0, 0, 0), 1011, 2, 2, 0, 0, 2);
    // a pair is parted, if one likes it enough
    share("p9;p9;t3,3;t3,4;l1,1,8;l0,0,1;", by(0, 0), 1015, 1, 1);
    share("p9;p9;t3,3;t3,4;l1,1,30;l0,0,9;", by(0, 0), 1039, 0, 1);
    // what nobody has is left out: the good one is not drawn, the frost stays
    share("p9;p9;t2,8;t0,3;", by(0), 992, 0, NONE);
    share("p9;p9;t2,8;t0,3;", by(0, 1), 1003, 0, 0);
    share("p9;t1,30;t1,30;t1,30;t1,30;t1,30;t1,30;", by(0, 0, 0, 0, 0, 0), 820, 0, 0, 0, 0, 0, 0);
    share("p9;p9;p9;p9;p9;t0,30;t0,30;t0,30;t0,30;t3,30;t3,30;l4,0,30;l4,1,30;l4,2,30;l3,3,30;l4,4,30;l4,5,30;",
        by(0, 1, 2, 3, 4, 0), 1360, 4, 4, 4, 3, 4, 4);
    ParishRaffle x = with("p9;p9;t0,3;", 0);
    CHECK.due("share(-2)", x.share(-2), BAD);
    CHECK.due("share(-4)", x.share(-4), BAD);
    CHECK.due("share(1)", x.share(1), BAD);
    CHECK.due("share(most)", x.share(Integer.MAX_VALUE), BAD);
  }

  /** Of several the first: by with whom the lowest thing is. */
  private static void shareOfSeveral() {
    share("p9;p9;p9;t0,3;t0,4;", by(2, 1), 1007, 0, 0);
    share("p9;p9;p9;t0,3;t0,4;l1,0,2;l2,0,2;", by(0, 0), 1009, 1, 0);
    share("p9;p9;p9;t2,5;t0,4;l1,1,2;l2,1,2;", by(0, 0), 1006, 1, 1);
    // the pair together with 0, or 1, or 2: with 0, though 2 is good for the third one
    share("p9;p9;p9;t3,1;t3,1;t0,1;l2,2,3;", by(2, 2, 0), 1006, 0, 0, 2);
    // parted or not makes no odds: the lowest one with 0, then the next with 0
    share("p9;p9;t3,2;t3,2;l1,1,4;", by(1, 1), 1008, 1, 1);
    share("p9;p9;t3,2;t3,2;l1,1,4;l0,0,4;", by(1, 1), 1008, 0, 0);
    // the frost may be with either that has a good one: the one who has the lower number
    share("p9;p9;p9;t0,2;t0,2;t2,9;l2,0,1;l1,1,1;", by(0, 0, 0), 1006, 2, 1, 1);
    share("p9;p9;t1,0;t2,0;t3,5;t0,0;", by(1, 1, 1, 1), 1000, 0, 0, 0, 0);
  }

  private static void envy(String text, int due, int... owners) {
    CHECK.due("envy() of " + text, with(text, owners).envy(), due);
  }

  private static void envy() {
    envy("p9;p9;t0,3;", NONE);
    envy("p9;p9;t0,3;", 10, 0);
    envy("p9;p9;t0,3;", 1, 1);
    envy("p9;p9;t1,3;", 1, 0);
    envy("p9;p9;t1,3;", 10, 1);
    envy("p9;p9;p9;t1,3;", 1, 0);
    envy("p9;p9;p9;t0,3;t0,3;", 20, 0, 1);
    envy("p9;p9;p9;t0,3;t0,3;l0,1,1;", 1, 0, 1);
    envy("p9;p9;p9;t0,3;t0,3;t0,3;l1,2,1;", 12, 0, 1, 2);
    envy("p9;p9;t0,3;t0,3;", NONE, 0, 1);
    envy("p9;p9;t0,3;t0,3;l0,0,5;l1,1,5;", NONE, 0, 1);
    // what the other one has, by one's own likes and pairs
    envy("p9;p9;t3,3;t3,4;t0,6;", 10, 0, 0, 1);
    envy("p9;p9;t3,3;t3,4;t0,7;", NONE, 0, 0, 1);
    envy("p9;t0,3;", NONE, 0);
    envy("p9;t1,3;", NONE, 0);
    envy("p9;p9;t1,3;t1,3;", NONE, 0, 1);
  }

  private static void ring(String text, int due, int... owners) {
    CHECK.due("ring() of " + text, with(text, owners).ring(), due);
  }

  private static void ring() {
    ring("p9;p9;t0,3;", NONE);
    ring("p9;p9;t0,3;", NONE, 0);
    ring("p9;p9;t0,3;t0,3;l0,1,1;l1,0,1;", 2, 0, 1);
    ring("p9;p9;p9;t0,3;t0,3;l1,1,1;l2,0,1;", 2, 1, 2);
    ring("p9;p9;p9;t0,3;t0,3;l1,0,1;l2,0,1;", NONE, 1, 2);
    ring("p9;p9;p9;t0,3;t0,3;t0,3;l1,2,1;l2,1,1;", 2, 0, 1, 2);
    ring("p9;p9;p9;t0,3;t0,3;t0,3;l0,1,1;l1,2,1;l2,0,1;", 3, 0, 1, 2);
    ring("p9;p9;p9;t0,3;t0,3;t0,3;l0,2,1;l2,1,1;l1,0,1;", 3, 0, 1, 2);
    ring("p9;p9;p9;t0,3;t0,3;t0,3;l0,1,1;l1,2,1;", NONE, 0, 1, 2);
    ring("p9;p9;p9;t0,3;t0,3;t0,3;l0,1,1;l1,2,1;l0,2,1;", NONE, 0, 1, 2);
    // of a ring of three and one of two the shorter one
    ring("p9;p9;p9;t0,3;t0,3;t0,3;l0,1,1;l1,2,1;l2,0,1;l2,1,1;", 2, 0, 1, 2);
    ring("p9;t0,3;", NONE, 0);
  }

  private static void longRings() {
    String five = "p9;p9;p9;p9;p9;t0,3;t0,3;t0,3;t0,3;t0,3;";
    String four = five + "l1,2,1;l2,4,1;l4,3,1;l3,1,1;";
    ring(four, 4, 0, 1, 2, 3, 4);
    ring(four + "l4,2,1;", 2, 0, 1, 2, 3, 4);
    String all = five + "l0,3,1;l3,1,1;l1,4,1;l4,2,1;l2,0,1;";
    ring(all, 5, 0, 1, 2, 3, 4);
    ring(all + "l1,0,1;", 3, 0, 1, 2, 3, 4);
    ring(all + "l4,0,1;", 4, 0, 1, 2, 3, 4);
    // each of the ring envies one outside of it, too
    ring(five + "l0,1,1;l1,3,1;l3,0,1;l0,4,1;l1,4,1;l3,4,1;", 3, 0, 1, 2, 3, 4);
    // no ring is left, when two have swapped
    ParishRaffle x = with("p9;p9;t0,3;t0,3;l0,1,1;l1,0,1;", 0, 1);
    CHECK.due("ring() at first", x.ring(), 2);
    x.swap(0, 1);
    CHECK.due("ring() behind a swap", x.ring(), NONE);
  }

  private static void nothingChanges() {
    ParishRaffle x = with("p9;p9;t2,3;t0,3;t0,3;l0,1,1;l1,0,9;", 0, 1);
    x.swaps();
    x.gives();
    x.share(-1);
    x.share(1);
    x.envy();
    x.ring();
    x.wins(0, 3, 0);
    x.mean(0, 0);
    x.needs(0, 3, 5);
    CHECK.due("person(0, 2)", x.person(0, 2), 1);
    CHECK.due("person(1, 2)", x.person(1, 2), 2);
    CHECK.due("person(0, 0)", x.person(0, 0), 8);
    CHECK.due("count(3)", x.count(3), 2);
    CHECK.due("count(7)", x.count(7), 2);
    CHECK.due("refuse()", x.refuse(), 1);
  }
}
