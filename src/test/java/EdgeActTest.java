import java.util.function.Supplier;
import java.util.function.ToLongFunction;

/** The edges of promises 9 to 15: draw, refuse, buy, hand, swap, give, undo. */
public final class EdgeActTest {
  private static final int BAD = ParishRaffle.BAD, NO = ParishRaffle.NO, FULL = ParishRaffle.FULL,
      NONE = ParishRaffle.NONE;
  private static final String THREE = "t0,1;t0,1;t0,1;";
  private static final Edges EDGES = new Edges();

  public static void main(String[] args) {
    drawByEachTicket();
    drawOfTheLast();
    drawRefused();
    refuseAtItsEdges();
    refuseOnceEach();
    refuseWhatWasMoved();
    refuseBehindUndoAndBack();
    refuseRefused();
    buyEachNumber();
    buyRefused();
    handEachNumber();
    handPersons();
    handRefused();
    swapNumbers();
    swapRefused();
    giveNumbers();
    giveRefused();
    undoOfMany();
    undoOfEach();
    undoIsNoAct();
    undoRefused();
    EDGES.end();
  }

  private static void leaves(String name, Supplier<ParishRaffle> made, ToLongFunction<ParishRaffle> call, long due) {
    EDGES.leaves(name, made, call, due);
  }

  /** Laid, with these draws behind it. */
  private static ParishRaffle drawn(String text, int... persons) {
    ParishRaffle x = Check.laid(text);
    Check.drawFor(x, persons);
    return x;
  }

  // promise 9

  private static void drawByEachTicket() {
    for (int k = -3; k <= 48; k++) {
      ParishRaffle x = Check.laid("p9;p9;p9;p9;p9;t0,1;");
      boolean is = k >= 0 && k <= 44;
      EDGES.due("draw(" + k + ") of 45", x.draw(k), is ? k / 9 : BAD);
      EDGES.due("count(2) then", x.count(2), is ? 44 : 45);
      EDGES.due("count(3) then", x.count(3), is ? NONE : 0);
    }
    int[] holders = {1, 1, 3, 4, 4, 4};
    for (int k = -1; k <= 6; k++) {
      ParishRaffle x = Check.laid("p0;p2;p0;p1;p3;t0,1;");
      EDGES.due("draw(" + k + ") of 6", x.draw(k), k >= 0 && k < 6 ? holders[k] : BAD);
    }
    for (int far : Edges.FAR) {
      EDGES.due("draw(" + far + ")", Parishes.first().draw(far), BAD);
    }
    // by what was bought and handed on: 9, 2 and 5 are in the hat
    ParishRaffle y = Check.laid("p3;p1;p6;" + THREE);
    y.buy(0, 6);
    y.hand(2, 1);
    EDGES.due("draw(8)", y.draw(8), 0);
    EDGES.due("draw(8), one being out", y.draw(8), 1);
    EDGES.due("draw(14), the 15th of 14", y.draw(14), BAD);
    EDGES.due("draw(13)", y.draw(13), 2);
  }

  private static void drawOfTheLast() {
    ParishRaffle x = Check.laid("p1;t0,1;t0,1;");
    EDGES.due("draw(0) by the only ticket", x.draw(0), 0);
    EDGES.due("draw(0) of an empty hat", x.draw(0), BAD);
    EDGES.due("count(3): it is next all the same", x.count(3), 1);
    x.buy(0, 1);
    EDGES.due("draw(0) of the last thing", x.draw(0), 0);
    EDGES.due("draw(0): BAD ahead of NO", x.draw(0), BAD);
    x.buy(0, 1);
    EDGES.due("draw(0): nothing is next", x.draw(0), NO);
    EDGES.due("draw(1): BAD ahead of NO", x.draw(1), BAD);
    ParishRaffle y = Check.laid("p9;t0,1;t0,1;t0,1;t0,1;t0,1;t0,1;");
    for (int t = 0; t < 6; t++) {
      EDGES.due("draw, thing " + t, y.draw(8 - t), 0);
    }
    EDGES.due("draw(0), the seventh", y.draw(0), NO);
    EDGES.due("draw(2), the seventh", y.draw(2), NO);
    EDGES.due("draw(3), the seventh", y.draw(3), BAD);
    y.refuse();
    EDGES.due("draw(2) of what was refused", y.draw(2), 0);
  }

  private static void drawRefused() {
    leaves("draw(45), all drawn", Parishes::brim, x -> x.draw(45), BAD);
    leaves("draw(-1), all drawn", Parishes::brim, x -> x.draw(-1), BAD);
    leaves("draw(44), all drawn", Parishes::brim, x -> x.draw(44), NO);
    leaves("draw(0), all drawn", Parishes::brim, x -> x.draw(0), NO);
    leaves("draw(7)", Parishes::midway, x -> x.draw(7), BAD);
    leaves("draw(-1)", Parishes::midway, x -> x.draw(-1), BAD);
    leaves("draw(11)", Parishes::first, x -> x.draw(11), BAD);
    leaves("draw(0), no ticket", Parishes::ticketless, x -> x.draw(0), BAD);
    leaves("draw(0), no thing", Parishes::thingless, x -> x.draw(0), NO);
    leaves("draw(11), no thing", Parishes::thingless, x -> x.draw(11), BAD);
    leaves("draw(0), neither", Parishes::bare, x -> x.draw(0), BAD);
  }

  // promise 10

  private static void refuseAtItsEdges() {
    EDGES.due("refuse() of a new object", Parishes.first().refuse(), NO);
    EDGES.due("refuse() without things", Parishes.thingless().refuse(), NO);
    EDGES.due("refuse() of an untouched one", Parishes.untouched().refuse(), NO);
    // each thing, the first and the last too
    for (int t = 0; t < 6; t++) {
      ParishRaffle x = Check.laid("p9;t0,1;t0,1;t0,1;t0,1;t0,1;t0,1;");
      for (int u = 0; u <= t; u++) {
        x.draw(0);
      }
      EDGES.due("refuse() of thing " + t, x.refuse(), t);
      EDGES.due("count(2): the ticket stays out", x.count(2), 8 - t);
      EDGES.due("count(3)", x.count(3), t);
      EDGES.due("thing(" + t + ", 2)", x.thing(t, 2), NONE);
      EDGES.due("refuse() again", x.refuse(), NO);
    }
    // by the only ticket: nobody can draw it again, until one is bought
    ParishRaffle y = drawn("p1;t0,1;", 0);
    EDGES.due("refuse()", y.refuse(), 0);
    EDGES.due("count(2)", y.count(2), 0);
    EDGES.due("draw(0)", y.draw(0), BAD);
    y.buy(0, 1);
    EDGES.due("draw(0) of one that was bought", y.draw(0), 0);
    EDGES.due("refuse() the second time", y.refuse(), NO);
  }

  /** Each thing may be refused once; the one ahead of it no more, when it was refused. */
  private static void refuseOnceEach() {
    ParishRaffle x = Check.laid("p9;p9;" + THREE);
    for (int t = 0; t < 3; t++) {
      Check.drawFor(x, 0);
      EDGES.due("refuse() of " + t, x.refuse(), t);
      EDGES.due("refuse() of " + t + ", nobody having it", x.refuse(), NO);
      Check.drawFor(x, 1);
      EDGES.due("refuse() of " + t + " by another one", x.refuse(), NO);
    }
    EDGES.due("count(4)", x.count(4), 3);
    EDGES.due("person(1, 2)", x.person(1, 2), 7);
    EDGES.due("count(2)", x.count(2), 12);
  }

  private static void refuseWhatWasMoved() {
    ParishRaffle given = drawn("p3;p3;" + THREE, 0, 1);
    given.give(1, 0);
    EDGES.due("refuse() of what was given", given.refuse(), NO);
    given.give(1, 1);
    EDGES.due("refuse() of what came back", given.refuse(), NO);
    Check.drawFor(given, 0);
    EDGES.due("refuse() of the next one", given.refuse(), 2);
    ParishRaffle first = drawn("p3;p3;" + THREE, 0, 1);
    first.swap(1, 0);
    EDGES.due("refuse() of what was swapped, the first named", first.refuse(), NO);
    ParishRaffle second = drawn("p3;p3;" + THREE, 0, 1);
    second.swap(0, 1);
    EDGES.due("refuse() of what was swapped, the second named", second.refuse(), NO);
    second.swap(0, 1);
    EDGES.due("refuse() of what was swapped back", second.refuse(), NO);
    ParishRaffle others = drawn("p3;p3;" + THREE, 0, 1, 0);
    others.swap(0, 1);
    others.give(0, 0);
    others.buy(0, 3);
    others.hand(0, 1);
    EDGES.due("refuse(), others being moved", others.refuse(), 2);
    // what could not be moved was not moved
    ParishRaffle still = drawn("p3;p3;" + THREE, 0, 0);
    still.give(1, 0);
    still.swap(0, 1);
    still.swap(1, 2);
    EDGES.due("refuse(), nothing having come of it", still.refuse(), 1);
  }

  private static void refuseBehindUndoAndBack() {
    ParishRaffle x = drawn("p3;p3;" + THREE, 0, 1);
    x.give(1, 0);
    x.undo();
    EDGES.due("refuse(), the gift undone", x.refuse(), 1);
    x.undo();
    EDGES.due("refuse(), the refusal undone", x.refuse(), 1);
    Check.drawFor(x, 1);
    x.undo();
    EDGES.due("refuse(), the second draw undone", x.refuse(), NO);
    Check.drawFor(x, 1);
    EDGES.due("refuse() in the second draw", x.refuse(), NO);
    ParishRaffle y = drawn("p3;p3;" + THREE, 0, 1);
    y.undo();
    EDGES.due("refuse() of the one ahead, the draw undone", y.refuse(), 0);
    ParishRaffle z = drawn("p3;p3;" + THREE, 0);
    z.give(0, 1);
    Check.drawFor(z, 1);
    z.undo();
    EDGES.due("refuse() of the one ahead, which was given", z.refuse(), NO);
    ParishRaffle kept = drawn("p3;p3;" + THREE, 0);
    kept.keep();
    kept.refuse();
    kept.keep();
    Check.drawFor(kept, 1);
    kept.back();
    Check.drawFor(kept, 1);
    EDGES.due("refuse() of what was refused, when kept", kept.refuse(), NO);
    kept.back();
    EDGES.due("refuse() of what was not, when kept", kept.refuse(), 0);
  }

  private static void refuseRefused() {
    leaves("refuse() of nothing", Parishes::first, ParishRaffle::refuse, NO);
    leaves("refuse() twice", Parishes::midway, ParishRaffle::refuse, NO);
    leaves("refuse() at the brim, given", () -> {
      ParishRaffle x = Parishes.brim();
      x.give(5, 4);
      return x;
    }, ParishRaffle::refuse, NO);
    leaves("refuse() of one drawn again", () -> {
      ParishRaffle x = Parishes.midway();
      x.draw(0);
      return x;
    }, ParishRaffle::refuse, NO);
  }

  // promise 11

  private static void buyEachNumber() {
    for (int held = 0; held <= 9; held++) {
      for (int n = -2; n <= 12; n++) {
        ParishRaffle x = Check.laid("p4;p" + held + ";p4;");
        int due = n < 1 || n > 9 ? BAD : held + n > 9 ? FULL : held + n;
        EDGES.due("buy(1, " + n + "), holding " + held, x.buy(1, n), due);
        EDGES.due("person(1, 0)", x.person(1, 0), due < 0 ? held : due);
        EDGES.due("person(1, 1)", x.person(1, 1), held);
        EDGES.due("count(2)", x.count(2), 8 + (due < 0 ? held : due));
        EDGES.due("count(7)", x.count(7), due < 0 ? 0 : 1);
      }
    }
    for (int persons = 1; persons <= 5; persons++) {
      for (int p = -2; p <= 6; p++) {
        ParishRaffle x = Check.laid("p0;".repeat(persons));
        EDGES.due("buy(" + p + ", 9)", x.buy(p, 9), p >= 0 && p < persons ? 9 : BAD);
      }
    }
    // 9 in the hat, whatever was bought in all
    ParishRaffle y = drawn("p9;" + THREE, 0, 0);
    EDGES.due("buy(0, 3)", y.buy(0, 3), FULL);
    EDGES.due("buy(0, 2)", y.buy(0, 2), 9);
    EDGES.due("buy(0, 1)", y.buy(0, 1), FULL);
  }

  private static void buyRefused() {
    leaves("buy(0, 1), FULL", Parishes::brim, x -> x.buy(0, 1), FULL);
    leaves("buy(4, 9), FULL", Parishes::brim, x -> x.buy(4, 9), FULL);
    leaves("buy(0, 0), BAD and full", Parishes::brim, x -> x.buy(0, 0), BAD);
    leaves("buy(0, 10), BAD and FULL", Parishes::brim, x -> x.buy(0, 10), BAD);
    leaves("buy(5, 1), BAD", Parishes::brim, x -> x.buy(5, 1), BAD);
    leaves("buy(-1, 1), BAD", Parishes::brim, x -> x.buy(-1, 1), BAD);
    leaves("buy(0, 8), FULL by one", Parishes::midway, x -> x.buy(0, 8), FULL);
    leaves("buy(4, 1)", Parishes::midway, x -> x.buy(4, 1), BAD);
    leaves("buy(1, 0)", Parishes::bare, x -> x.buy(1, 0), BAD);
    for (int far : Edges.FAR) {
      leaves("buy(0, " + far + ")", Parishes::first, x -> x.buy(0, far), BAD);
      leaves("buy(" + far + ", 1)", Parishes::first, x -> x.buy(far, 1), BAD);
    }
  }

  // promise 12

  private static void handEachNumber() {
    for (int a = 0; a <= 9; a++) {
      for (int b = 0; b <= 9; b++) {
        ParishRaffle x = Check.laid("p" + a + ";p" + b + ";");
        int due = a == 0 ? NO : b == 9 ? FULL : b + 1;
        EDGES.due("hand(0, 1) of " + a + ", " + b, x.hand(0, 1), due);
        EDGES.due("person(0, 0)", x.person(0, 0), due < 0 ? a : a - 1);
        EDGES.due("person(1, 0)", x.person(1, 0), due < 0 ? b : b + 1);
        EDGES.due("person(0, 1)", x.person(0, 1), a);
        EDGES.due("person(1, 1)", x.person(1, 1), b);
        EDGES.due("count(7)", x.count(7), due < 0 ? 0 : 1);
      }
    }
  }

  private static void handPersons() {
    for (int persons = 1; persons <= 5; persons++) {
      for (int p = -2; p <= 6; p++) {
        for (int q = -2; q <= 6; q++) {
          boolean is = p >= 0 && q >= 0 && p < persons && q < persons && p != q;
          EDGES.due("hand(" + p + ", " + q + ") of " + persons, Check.laid("p3;".repeat(persons)).hand(p, q),
              is ? 4 : BAD);
          // BAD ahead of NO, and of FULL
          EDGES.due("hand(" + p + ", " + q + ") of none", Check.laid("p0;".repeat(persons)).hand(p, q), is ? NO : BAD);
          EDGES.due("hand(" + p + ", " + q + ") of 9", Check.laid("p9;".repeat(persons)).hand(p, q), is ? FULL : BAD);
        }
      }
    }
  }

  private static void handRefused() {
    leaves("hand(0, 1), FULL", Parishes::brim, x -> x.hand(0, 1), FULL);
    leaves("hand(4, 0), FULL", Parishes::brim, x -> x.hand(4, 0), FULL);
    leaves("hand(2, 2)", Parishes::brim, x -> x.hand(2, 2), BAD);
    leaves("hand(5, 0)", Parishes::brim, x -> x.hand(5, 0), BAD);
    leaves("hand(0, 5)", Parishes::brim, x -> x.hand(0, 5), BAD);
    leaves("hand(3, 0), holding none", Parishes::midway, x -> x.hand(3, 0), NO);
    leaves("hand(3, 3), holding none", Parishes::midway, x -> x.hand(3, 3), BAD);
    leaves("hand(3, 4), holding none", Parishes::midway, x -> x.hand(3, 4), BAD);
    leaves("hand(3, 0), NO and FULL", () -> Check.laid("p9;p9;p9;p0;"), x -> x.hand(3, 0), NO);
    for (int far : Edges.FAR) {
      leaves("hand(0, " + far + ")", Parishes::first, x -> x.hand(0, far), BAD);
      leaves("hand(" + far + ", 0)", Parishes::first, x -> x.hand(far, 0), BAD);
      leaves("hand(" + far + ", " + far + ")", Parishes::first, x -> x.hand(far, far), BAD);
    }
  }

  // promise 13

  /** Things 0 and 2 are with person 0, 1 with 1, 3 with 4; nobody has 4 and 5. */
  private static ParishRaffle shared() {
    return drawn("p3;p3;p3;p3;p3;t0,1;t0,1;t0,1;t0,1;t0,1;t0,1;", 0, 1, 0, 4);
  }

  private static void swapNumbers() {
    int[] owners = {0, 1, 0, 4, NONE, NONE};
    for (int t = -2; t <= 7; t++) {
      for (int u = -2; u <= 7; u++) {
        ParishRaffle x = shared();
        boolean bad = t < 0 || u < 0 || t > 5 || u > 5 || t == u;
        boolean no = !bad && (owners[t] == NONE || owners[u] == NONE || owners[t] == owners[u]);
        EDGES.due("swap(" + t + ", " + u + ")", x.swap(t, u), bad ? BAD : no ? NO : owners[u]);
        EDGES.due("count(7)", x.count(7), bad || no ? 4 : 5);
        for (int v = 0; v < 6; v++) {
          int due = bad || no ? owners[v] : v == t ? owners[u] : v == u ? owners[t] : owners[v];
          EDGES.due("thing(" + v + ", 2)", x.thing(v, 2), due);
        }
      }
    }
    // as many things as there are
    ParishRaffle two = drawn("p3;p3;t0,1;t0,1;", 0, 1);
    EDGES.due("swap(0, 2)", two.swap(0, 2), BAD);
    EDGES.due("swap(2, 1)", two.swap(2, 1), BAD);
    EDGES.due("swap(1, 0)", two.swap(1, 0), 0);
    EDGES.due("swap(0, 1) without things", Parishes.thingless().swap(0, 1), BAD);
  }

  private static void swapRefused() {
    leaves("swap(0, 5), one has both", Parishes::brim, x -> x.swap(0, 5), NO);
    leaves("swap(5, 5)", Parishes::brim, x -> x.swap(5, 5), BAD);
    leaves("swap(5, 6)", Parishes::brim, x -> x.swap(5, 6), BAD);
    leaves("swap(-1, 0)", Parishes::brim, x -> x.swap(-1, 0), BAD);
    leaves("swap(0, 3), it is next", Parishes::midway, x -> x.swap(0, 3), NO);
    leaves("swap(3, 0), it is next", Parishes::midway, x -> x.swap(3, 0), NO);
    leaves("swap(4, 5), nobody has either", Parishes::midway, x -> x.swap(4, 5), NO);
    leaves("swap(5, 5), nobody has it", Parishes::midway, x -> x.swap(5, 5), BAD);
    leaves("swap(5, 6), nobody has it", Parishes::midway, x -> x.swap(5, 6), BAD);
    for (int far : Edges.FAR) {
      leaves("swap(0, " + far + ")", Parishes::midway, x -> x.swap(0, far), BAD);
      leaves("swap(" + far + ", 0)", Parishes::midway, x -> x.swap(far, 0), BAD);
    }
  }

  // promise 14

  private static void giveNumbers() {
    int[] owners = {0, 1, 0, 4, NONE, NONE};
    for (int t = -2; t <= 7; t++) {
      for (int p = -5; p <= 6; p++) {
        ParishRaffle x = shared();
        boolean bad = t < 0 || t > 5 || p < 0 || p > 4;
        boolean no = !bad && (owners[t] == NONE || owners[t] == p);
        EDGES.due("give(" + t + ", " + p + ")", x.give(t, p), bad ? BAD : no ? NO : owners[t]);
        EDGES.due("count(7)", x.count(7), bad || no ? 4 : 5);
        for (int v = 0; v < 6; v++) {
          EDGES.due("thing(" + v + ", 2)", x.thing(v, 2), v == t && !bad && !no ? p : owners[v]);
        }
      }
    }
    ParishRaffle one = drawn("p3;t0,1;", 0);
    EDGES.due("give(0, 0) of one person", one.give(0, 0), NO);
    EDGES.due("give(0, 1) of one person", one.give(0, 1), BAD);
    EDGES.due("give(1, 0) of one thing", one.give(1, 0), BAD);
    EDGES.due("give(0, 0) without things", Parishes.thingless().give(0, 0), BAD);
  }

  private static void giveRefused() {
    leaves("give(5, 0), who has it", Parishes::brim, x -> x.give(5, 0), NO);
    leaves("give(6, 0)", Parishes::brim, x -> x.give(6, 0), BAD);
    leaves("give(5, 5)", Parishes::brim, x -> x.give(5, 5), BAD);
    leaves("give(-1, 0)", Parishes::brim, x -> x.give(-1, 0), BAD);
    leaves("give(0, -1)", Parishes::brim, x -> x.give(0, -1), BAD);
    leaves("give(3, 0), it is next", Parishes::midway, x -> x.give(3, 0), NO);
    leaves("give(5, 3), nobody has it", Parishes::midway, x -> x.give(5, 3), NO);
    leaves("give(5, 4), BAD and NO", Parishes::midway, x -> x.give(5, 4), BAD);
    leaves("give(3, -4), like NONE", Parishes::midway, x -> x.give(3, -4), BAD);
    for (int far : Edges.FAR) {
      leaves("give(0, " + far + ")", Parishes::midway, x -> x.give(0, far), BAD);
      leaves("give(" + far + ", 0)", Parishes::midway, x -> x.give(far, 0), BAD);
    }
  }

  // promise 15

  /** However many were done, the last 8 can be undone, each to what was ahead of it. */
  private static void undoOfMany() {
    for (int acts = 0; acts <= 20; acts++) {
      ParishRaffle x = Check.laid("p0;p9;p0;");
      for (int i = 0; i < acts; i++) {
        x.hand(i / 9 % 2 == 0 ? 1 : 2, i / 9 % 2 == 0 ? 2 : 1);
      }
      int held = x.person(2, 0);
      EDGES.due("count(7) of " + acts, x.count(7), Math.min(acts, 8));
      for (int i = 1; i <= Math.min(acts, 8); i++) {
        EDGES.due("undo() of " + acts, x.undo(), Math.min(acts, 8) - i);
        int last = acts - i;
        held += last / 9 % 2 == 0 ? -1 : 1;
        EDGES.due("person(2, 0)", x.person(2, 0), held);
        EDGES.due("person(1, 0)", x.person(1, 0), 9 - held);
        EDGES.due("count(7)", x.count(7), Math.min(acts, 8) - i);
      }
      EDGES.due("undo(), nothing being left", x.undo(), NO);
      EDGES.due("person(2, 0) in the end", x.person(2, 0), held);
    }
  }

  /** An act undone leaves all as it was ahead of it, what can be undone, too. */
  private static void undone(String name, ToLongFunction<ParishRaffle> act) {
    EDGES.alike(name + " undone", () -> {
      ParishRaffle x = beforeUndo();
      EDGES.due(name + " can be", act.applyAsLong(x) >= 0 ? 1 : 0, 1);
      EDGES.due("undo()", x.undo(), 4);
      return x;
    }, EdgeActTest::beforeUndo);
  }

  private static ParishRaffle beforeUndo() {
    ParishRaffle x = drawn("p3;p3;p0;p8;t0,1;t1,2;t3,3;t3,4;", 0, 1, 0);
    x.buy(0, 2);
    return x;
  }

  private static void undoOfEach() {
    undone("draw(0)", x -> x.draw(0));
    undone("draw(6)", x -> x.draw(6));
    undone("refuse()", ParishRaffle::refuse);
    undone("buy(2, 9)", x -> x.buy(2, 9));
    undone("hand(0, 3)", x -> x.hand(0, 3));
    undone("swap(1, 2)", x -> x.swap(1, 2));
    undone("swap(0, 1)", x -> x.swap(0, 1));
    undone("give(2, 3)", x -> x.give(2, 3));
    undone("give(0, 1)", x -> x.give(0, 1));
  }

  /** Neither undo itself, nor what is noted, written, kept, asked is among what can be undone. */
  private static void undoIsNoAct() {
    ParishRaffle x = drawn("p3;p3;t0,1;t0,1;", 0, 1);
    EDGES.due("undo()", x.undo(), 1);
    EDGES.due("count(7)", x.count(7), 1);
    EDGES.due("undo() of the first", x.undo(), 0);
    EDGES.due("undo() no more", x.undo(), NO);
    EDGES.due("count(4)", x.count(4), 0);
    Check.drawFor(x, 1);
    x.note(0);
    x.forget();
    x.keep();
    x.write('p');
    x.wipe();
    x.year(1, 60, 0);
    x.share(-1);
    EDGES.due("count(7) then", x.count(7), 1);
    x.back();
    EDGES.due("undo() behind back()", x.undo(), NO);
    EDGES.due("thing(0, 2)", x.thing(0, 2), 1);
    x.give(0, 0);
    EDGES.due("undo() of what came since", x.undo(), 0);
    EDGES.due("thing(0, 2) then", x.thing(0, 2), 1);
  }

  private static void undoRefused() {
    leaves("undo() of a new object", Parishes::first, ParishRaffle::undo, NO);
    leaves("undo() of an untouched one", Parishes::untouched, ParishRaffle::undo, NO);
    leaves("undo() behind back()", () -> {
      ParishRaffle x = Parishes.brim();
      x.back();
      return x;
    }, ParishRaffle::undo, NO);
    leaves("undo() behind eight", () -> {
      ParishRaffle x = Parishes.brim();
      for (int i = 0; i < 8; i++) {
        x.undo();
      }
      return x;
    }, ParishRaffle::undo, NO);
  }
}
