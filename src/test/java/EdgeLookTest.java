/** The edges of promises 6 to 8 and 31: person, thing, likes, count. */
public final class EdgeLookTest {
  private static final int BAD = ParishRaffle.BAD, NONE = ParishRaffle.NONE;
  private static final Edges EDGES = new Edges();

  public static void main(String[] args) {
    personNumbers();
    personAtItsEdges();
    worthAtItsEdges();
    thingNumbers();
    thingAtItsEdges();
    likesNumbers();
    likesAtTheirEdges();
    countNumbers();
    countAtItsEdges();
    lookingLeavesAll();
    EDGES.end();
  }

  // promise 6

  private static void personNumbers() {
    for (int persons = 1; persons <= 5; persons++) {
      ParishRaffle x = Check.laid("p7;".repeat(persons));
      int[] answers = {7, 7, 0, 1000};
      for (int p = -3; p <= 7; p++) {
        for (int what = -3; what <= 6; what++) {
          boolean is = p >= 0 && p < persons && what >= 0 && what <= 3;
          EDGES.due("person(" + p + ", " + what + ") of " + persons, x.person(p, what), is ? answers[what] : BAD);
        }
      }
      for (int far : Edges.FAR) {
        EDGES.due("person(" + far + ", 0)", x.person(far, 0), BAD);
        EDGES.due("person(0, " + far + ")", x.person(0, far), BAD);
        EDGES.due("person(" + far + ", " + far + ")", x.person(far, far), BAD);
      }
    }
  }

  private static void personAtItsEdges() {
    ParishRaffle x = Check.laid("p9;p0;t0,1;t0,1;t0,1;t0,1;t0,1;t0,1;");
    EDGES.due("person(0, 0), the most", x.person(0, 0), 9);
    EDGES.due("person(1, 0), the fewest", x.person(1, 0), 0);
    for (int t = 0; t < 6; t++) {
      x.draw(0);
      EDGES.due("person(0, 2) of " + (t + 1), x.person(0, 2), (2 << t) - 1);
      EDGES.due("person(0, 0) then", x.person(0, 0), 8 - t);
      EDGES.due("person(0, 1), as laid", x.person(0, 1), 9);
    }
    x.buy(1, 9);
    EDGES.due("person(1, 0), bought", x.person(1, 0), 9);
    EDGES.due("person(1, 1), as laid", x.person(1, 1), 0);
    x.refuse();
    EDGES.due("person(0, 2), the last one refused", x.person(0, 2), 31);
    ParishRaffle y = Parishes.brim();
    int[] sets = {33, 2, 4, 8, 16};
    for (int p = 0; p < 5; p++) {
      EDGES.due("brim: person(" + p + ", 0)", y.person(p, 0), 9);
      EDGES.due("brim: person(" + p + ", 2)", y.person(p, 2), sets[p]);
    }
  }

  /** Worth of a person who has all that is told, behind its own six draws. */
  private static void worth(String things, int due) {
    ParishRaffle x = Check.laid("p9;" + things);
    while (x.draw(0) == 0) {
      EDGES.due("who draws", x.thing(x.count(4) - 1, 2), 0);
    }
    EDGES.due("person(0, 3) of " + things, x.person(0, 3), due);
    EDGES.due("count(5) of " + things, x.count(5), due);
  }

  private static void worthAtItsEdges() {
    worth("", 1000);
    String likes = "l0,0,30;l0,1,30;l0,2,30;l0,3,30;l0,4,30;l0,5,30;";
    worth("t1,30;".repeat(6), 820);
    worth("t2,30;".repeat(6), 820);
    worth("t2,30;".repeat(5) + "t0,0;", 1000);
    worth("t0,0;" + "t2,30;".repeat(5), 1000);
    worth("t0,30;".repeat(6) + likes, 1360);
    worth("t3,30;".repeat(6) + likes, 1360);
    worth("t1,30;".repeat(6) + likes, 1000);
    // one of a pair is worth nothing by itself, another one makes two of them
    worth("t3,30;", 1000);
    worth("t3,30;t3,0;", 1030);
    worth("t3,30;t0,1;t1,1;t2,9;", 1000);
    worth("t3,1;t3,2;t3,4;", 1007);
    // frost beside a bad one, a pair, a frost: no good one
    worth("t2,5;t1,0;", 995);
    worth("t2,5;t3,0;t3,0;", 995);
    worth("t2,5;t2,0;", 995);
    worth("t2,5;t0,0;", 1000);
    worth("t0,0;", 1000);
    worth("t1,0;l0,0,1;", 1001);
  }

  // promise 7

  private static void thingNumbers() {
    for (int things = 0; things <= 6; things++) {
      ParishRaffle x = Check.laid("p7;" + "t2,30;".repeat(things));
      int[] answers = {2, 30, NONE, 0, 0};
      for (int t = -3; t <= 8; t++) {
        for (int what = -3; what <= 7; what++) {
          boolean is = t >= 0 && t < things && what >= 0 && what <= 4;
          EDGES.due("thing(" + t + ", " + what + ") of " + things, x.thing(t, what), is ? answers[what] : BAD);
        }
      }
      for (int far : Edges.FAR) {
        EDGES.due("thing(" + far + ", 0)", x.thing(far, 0), BAD);
        EDGES.due("thing(0, " + far + ")", x.thing(0, far), BAD);
        EDGES.due("thing(" + far + ", " + far + ")", x.thing(far, far), BAD);
      }
    }
  }

  private static void thing(ParishRaffle x, int t, int has, int drawn, int open) {
    EDGES.due("thing(" + t + ", 2)", x.thing(t, 2), has);
    EDGES.due("thing(" + t + ", 3)", x.thing(t, 3), drawn);
    EDGES.due("thing(" + t + ", 4)", x.thing(t, 4), open);
  }

  private static void thingAtItsEdges() {
    ParishRaffle x = Check.laid("p0;p9;t0,0;t1,30;t2,1;t3,29;t0,3;t0,4;");
    int[] kinds = {0, 1, 2, 3, 0, 0};
    int[] worths = {0, 30, 1, 29, 3, 4};
    for (int t = 0; t < 6; t++) {
      EDGES.due("thing(" + t + ", 0)", x.thing(t, 0), kinds[t]);
      EDGES.due("thing(" + t + ", 1)", x.thing(t, 1), worths[t]);
      x.draw(0);
      for (int u = 0; u < 6; u++) {
        thing(x, u, u <= t ? 1 : NONE, u <= t ? 1 : 0, u == t ? 1 : 0);
      }
    }
    // the last one of all is refused: it is next, and none ahead of it can be refused
    x.refuse();
    thing(x, 5, NONE, 0, 0);
    thing(x, 4, 1, 1, 0);
    x.draw(0);
    thing(x, 5, 1, 1, 0);
    thing(x, 4, 1, 1, 0);
    x.undo();
    x.undo();
    thing(x, 5, 1, 1, 1);
    x.give(5, 0);
    thing(x, 5, 0, 1, 0);
    x.undo();
    x.give(4, 0);
    thing(x, 5, 1, 1, 1);
    x.swap(4, 5);
    thing(x, 5, 0, 1, 0);
    x.undo();
    thing(x, 5, 1, 1, 1);
  }

  // promise 8

  private static void likesNumbers() {
    for (int persons = 1; persons <= 5; persons++) {
      for (int things = 0; things <= 6; things += 1) {
        ParishRaffle x = Check.laid("p1;".repeat(persons) + "t0,1;".repeat(things));
        for (int p = -2; p <= 6; p++) {
          for (int t = -2; t <= 7; t++) {
            boolean is = p >= 0 && p < persons && t >= 0 && t < things;
            EDGES.due("likes(" + p + ", " + t + ") of " + persons + ", " + things, x.likes(p, t), is ? 0 : BAD);
          }
        }
        for (int far : Edges.FAR) {
          EDGES.due("likes(" + far + ", 0)", x.likes(far, 0), BAD);
          EDGES.due("likes(0, " + far + ")", x.likes(0, far), BAD);
        }
      }
    }
  }

  private static void likesAtTheirEdges() {
    ParishRaffle x = Check.laid("p1;p1;p1;p1;p1;t0,1;t0,1;t0,1;t0,1;t0,1;t0,1;"
        + "l0,0,0;l0,5,30;l4,0,29;l4,5,1;l2,3,30;l2,3,0;l3,2,0;l3,2,30;l1,1,5;l1,1,7;l1,1,6;");
    int[][] told = new int[5][6];
    told[0][5] = 30;
    told[4][0] = 29;
    told[4][5] = 1;
    told[3][2] = 30;
    told[1][1] = 6;
    for (int p = 0; p < 5; p++) {
      for (int t = 0; t < 6; t++) {
        EDGES.due("likes(" + p + ", " + t + ")", x.likes(p, t), told[p][t]);
      }
    }
  }

  // promise 31

  private static void counts(String name, ParishRaffle x, int... due) {
    for (int what = 0; what < due.length; what++) {
      EDGES.due(name + ": count(" + what + ")", x.count(what), due[what]);
    }
    for (int what = due.length; what < due.length + 10; what++) {
      EDGES.due(name + ": count(" + what + ")", x.count(what), BAD);
      EDGES.due(name + ": count(" + (due.length - 1 - what) + ")", x.count(due.length - 1 - what), BAD);
    }
    for (int far : Edges.FAR) {
      EDGES.due(name + ": count(" + far + ")", x.count(far), BAD);
    }
  }

  private static void countNumbers() {
    counts("new", Parishes.first(), 5, 6, 11, 0, 0, 1000, 0, 0, 0, 0);
    counts("bare", Parishes.bare(), 1, 0, 0, NONE, 0, 1000, 0, 0, 0, 3);
    counts("thingless", Parishes.thingless(), 2, 0, 11, NONE, 0, 1000, 0, 0, 0, 6);
    counts("ticketless", Parishes.ticketless(), 3, 2, 0, 0, 0, 1000, 0, 0, 0, 19);
    // 0 has the bad one, 1 the good one, 2 one of a pair
    counts("midway", Parishes.midway(), 4, 6, 7, 3, 3, 1004, 3, 7, 1, 67);
    // 12 and 1, 3 and 6; 2 less 8; one of a pair, 3; 4 less 6; one of a pair, 5
    counts("brim", Parishes.brim(), 5, 6, 45, NONE, 6, 1022, 8, 8, 2, 200);
    counts("untouched", Parishes.untouched(), 5, 6, 45, 0, 0, 1000, 0, 0, 0, 200);
  }

  private static void countAtItsEdges() {
    ParishRaffle x = Check.laid("p9;t0,1;t0,1;t0,1;t0,1;t0,1;t0,1;");
    for (int t = 0; t < 6; t++) {
      EDGES.due("count(3) of " + t, x.count(3), t);
      EDGES.due("count(4) of " + t, x.count(4), t);
      EDGES.due("count(7) of " + t, x.count(7), t);
      EDGES.due("count(2) of " + t, x.count(2), 9 - t);
      x.draw(0);
    }
    EDGES.due("count(3), all being drawn", x.count(3), NONE);
    EDGES.due("count(4), all being drawn", x.count(4), 6);
    x.refuse();
    EDGES.due("count(3), the last one refused", x.count(3), 5);
    EDGES.due("count(4), the last one refused", x.count(4), 5);
    EDGES.due("count(7) of 7", x.count(7), 7);
    x.buy(0, 1);
    EDGES.due("count(7) of 8", x.count(7), 8);
    x.buy(0, 1);
    EDGES.due("count(7) of 9", x.count(7), 8);
    for (int i = 0; i < 4; i++) {
      x.keep();
      EDGES.due("count(8) of " + (i + 1), x.count(8), Math.min(i + 1, 2));
    }
    for (int i = 0; i < 10; i++) {
      x.note(0);
      EDGES.due("count(6) of " + (i + 1), x.count(6), Math.min(i + 1, 8));
    }
  }

  private static void lookingLeavesAll() {
    EDGES.leaves("person(5, 0)", Parishes::brim, x -> x.person(5, 0), BAD);
    EDGES.leaves("person(4, 4)", Parishes::brim, x -> x.person(4, 4), BAD);
    EDGES.leaves("person(4, 3)", Parishes::brim, x -> x.person(4, 3), 1005);
    EDGES.leaves("thing(6, 0)", Parishes::brim, x -> x.thing(6, 0), BAD);
    EDGES.leaves("thing(5, 5)", Parishes::brim, x -> x.thing(5, 5), BAD);
    EDGES.leaves("thing(5, 4)", Parishes::brim, x -> x.thing(5, 4), 1);
    EDGES.leaves("likes(5, 5)", Parishes::brim, x -> x.likes(5, 5), BAD);
    EDGES.leaves("likes(4, 6)", Parishes::brim, x -> x.likes(4, 6), BAD);
    EDGES.leaves("count(10)", Parishes::brim, x -> x.count(10), BAD);
    EDGES.leaves("count(-1)", Parishes::midway, x -> x.count(-1), BAD);
    EDGES.leaves("count(5)", Parishes::midway, x -> x.count(5), 1004);
  }
}
