import java.math.BigInteger;
import java.util.function.Supplier;

/** The edges of promises 28 to 30: year, keep, back. */
public final class EdgeYearTest {
  private static final int BAD = ParishRaffle.BAD, NO = ParishRaffle.NO, FULL = ParishRaffle.FULL;
  private static final Edges EDGES = new Edges();

  public static void main(String[] args) {
    yearNumbers();
    yearFirstAndLast();
    yearWithNothing();
    yearOfTheBrim();
    yearFromNowOn();
    yearLeavesAll();
    keepUpToFull();
    keepRefused();
    keepIsNoAct();
    backOfNothing();
    backRefused();
    backToEach();
    backInTurn();
    backLeavesNotesAndText();
    backBehindLay();
    EDGES.end();
  }

  // promise 28

  private static void yearNumbers() {
    int[] years = {-2, -1, 0, 1, 9998, 9999, 10000, 10001, Integer.MIN_VALUE, Integer.MAX_VALUE};
    int[] turns = {-2, -1, 0, 1, 2, 59, 60, 61, 62, Integer.MIN_VALUE, Integer.MAX_VALUE};
    int[] whats = {-2, -1, 0, 1, 2, 3, Integer.MIN_VALUE, Integer.MAX_VALUE};
    for (int z : years) {
      for (int n : turns) {
        ParishRaffle x = Parishes.thingless();
        for (int what : whats) {
          boolean is = z >= 0 && z <= 9999 && n >= 1 && n <= 60 && (what == 0 || what == 1);
          EDGES.due("year(" + z + ", " + n + ", " + what + ")", x.year(z, n, what), is ? 1000 * what : BAD);
        }
      }
    }
  }

  private static int turn(int z, int k) {
    BigInteger x = BigInteger.valueOf(7919).multiply(BigInteger.valueOf(z))
        .add(BigInteger.valueOf(6151).multiply(BigInteger.valueOf(k))).add(BigInteger.ONE);
    return x.multiply(x).mod(BigInteger.valueOf(65521)).intValue();
  }

  /** One turn, by acts. */
  private static void act(ParishRaffle x, int draw) {
    if (draw % 4 == 0 && x.count(2) > 0) {
      x.draw(draw / 4 % x.count(2));
    } else if (draw % 4 == 1) {
      x.buy(draw / 4 % x.count(0), draw / 64 % 3 + 1);
    } else if (draw % 4 == 2 && x.count(1) > 0) {
      x.give(draw / 4 % x.count(1), draw / 64 % x.count(0));
    }
  }

  private static void yearAsByActs(String name, Supplier<ParishRaffle> made, int z, int n) {
    ParishRaffle x = made.get();
    for (int k = 0; k < n; k++) {
      act(x, turn(z, k));
    }
    String call = name + ": year(" + z + ", " + n + ", ";
    EDGES.due(call + "0)", made.get().year(z, n, 0), x.count(4));
    EDGES.due(call + "1)", made.get().year(z, n, 1), x.count(5));
  }

  private static void yearFirstAndLast() {
    int[] years = {0, 1, 2, 271, 272, 5000, 9997, 9998, 9999};
    int[] turns = {1, 2, 3, 59, 60};
    for (int z : years) {
      for (int n : turns) {
        yearAsByActs("new", Parishes::first, z, n);
        yearAsByActs("untouched", Parishes::untouched, z, n);
        yearAsByActs("ticketless", Parishes::ticketless, z, n);
        yearAsByActs("midway", Parishes::midway, z, n);
      }
    }
    // year 0 begins with x = 1, DRAW = 1: person 0 buys 1
    EDGES.due("DRAW 0 of year 0", turn(0, 0), 1);
    EDGES.due("year(0, 1, 0)", Parishes.first().year(0, 1, 0), 0);
    EDGES.due("year(0, 1, 1)", Parishes.first().year(0, 1, 1), 1000);
  }

  /** Without things, or persons' tickets: nothing is drawn or given, whatever the turns are. */
  private static void yearWithNothing() {
    for (int z = 0; z <= 9999; z += 101) {
      EDGES.due("bare: year(" + z + ", 60, 0)", Parishes.bare().year(z, 60, 0), 0);
      EDGES.due("thingless: year(" + z + ", 60, 1)", Parishes.thingless().year(z, 60, 1), 1000);
      yearAsByActs("one thing", () -> Check.laid("p0;t1,30;"), z, 60);
      yearAsByActs("one thing of many", () -> Check.laid("p1;p1;p0;t0,3;l0,0,1;l1,0,2;l2,0,4;"), z, 60);
    }
  }

  /** All hold 9, nothing is next: nobody buys, nothing is drawn; things are given alone. */
  private static void yearOfTheBrim() {
    for (int z = 0; z <= 9999; z += 909) {
      EDGES.due("brim: year(" + z + ", 60, 0)", Parishes.brim().year(z, 60, 0), 6);
      yearAsByActs("brim", Parishes::brim, z, 60);
    }
    // one ticket below 9 may be bought, two may not
    for (int z = 0; z <= 9999; z += 303) {
      yearAsByActs("eight", () -> Check.laid("p8;p8;t0,3;t2,5;t3,1;t3,9;t1,1;t0,1;"), z, 30);
    }
  }

  /** A year goes on from what stands, also from what was refused, and never refuses. */
  private static void yearFromNowOn() {
    for (int z = 0; z <= 9999; z += 777) {
      yearAsByActs("refused", () -> {
        ParishRaffle x = Parishes.untouched();
        Check.drawFor(x, 4, 3);
        x.refuse();
        return x;
      }, z, 40);
    }
  }

  private static void yearLeavesAll() {
    EDGES.leaves("year(0, 60, 0)", Parishes::brim, x -> x.year(0, 60, 0), 6);
    EDGES.leaves("year(9999, 60, 0)", Parishes::midway, x -> x.year(9999, 60, 0), Parishes.midway().year(9999, 60, 0));
    EDGES.leaves("year(10000, 1, 0)", Parishes::midway, x -> x.year(10000, 1, 0), BAD);
    EDGES.leaves("year(-1, 1, 0)", Parishes::midway, x -> x.year(-1, 1, 0), BAD);
    EDGES.leaves("year(0, 61, 0)", Parishes::midway, x -> x.year(0, 61, 0), BAD);
    EDGES.leaves("year(0, 0, 0)", Parishes::midway, x -> x.year(0, 0, 0), BAD);
    EDGES.leaves("year(0, 1, 2)", Parishes::midway, x -> x.year(0, 1, 2), BAD);
    // the same year again answers the same
    ParishRaffle y = Parishes.first();
    int first = y.year(123, 60, 1);
    y.year(456, 60, 1);
    EDGES.due("year(123, 60, 1) again", y.year(123, 60, 1), first);
  }

  // promise 29

  private static void keepUpToFull() {
    ParishRaffle x = Parishes.first();
    EDGES.due("keep()", x.keep(), 1);
    EDGES.due("keep(), the second", x.keep(), 2);
    EDGES.due("keep(), the third", x.keep(), FULL);
    EDGES.due("count(8)", x.count(8), 2);
    EDGES.due("back()", x.back(), 1);
    EDGES.due("keep(), there being room", x.keep(), 2);
    EDGES.due("keep(), one too many", x.keep(), FULL);
    EDGES.due("back()", x.back(), 1);
    EDGES.due("back(), the first", x.back(), 0);
    EDGES.due("back(), nothing being left", x.back(), NO);
    EDGES.due("keep() again", x.keep(), 1);
  }

  private static void keepRefused() {
    EDGES.leaves("keep(), FULL", Parishes::brim, ParishRaffle::keep, FULL);
    // what was kept is not that of the refused call
    ParishRaffle x = Check.laid("p9;p9;t0,1;t0,1;t0,1;");
    x.keep();
    Check.drawFor(x, 0);
    x.keep();
    Check.drawFor(x, 1);
    EDGES.due("keep(), FULL", x.keep(), FULL);
    x.back();
    EDGES.due("count(4): as kept last", x.count(4), 1);
    x.back();
    EDGES.due("count(4): as kept first", x.count(4), 0);
  }

  private static void keepIsNoAct() {
    ParishRaffle x = Check.laid("p9;p9;t0,1;t0,1;t0,1;");
    Check.drawFor(x, 0, 1);
    EDGES.due("keep()", x.keep(), 1);
    EDGES.due("count(7): keep is not to be undone", x.count(7), 2);
    EDGES.due("refuse(): keep does not forbid it", x.refuse(), 1);
    EDGES.due("undo()", x.undo(), 2);
    EDGES.due("undo()", x.undo(), 1);
    EDGES.due("undo()", x.undo(), 0);
    EDGES.due("count(8): it stays kept", x.count(8), 1);
    EDGES.due("back()", x.back(), 0);
    EDGES.due("count(4)", x.count(4), 2);
    // but for what can be undone, all is as kept
    EDGES.alike("kept and brought back", () -> {
      ParishRaffle y = Parishes.midway();
      y.keep();
      y.back();
      return y;
    }, () -> {
      ParishRaffle y = Parishes.midway();
      actAgain(y);
      y.keep();
      y.back();
      return y;
    });
  }

  /** Midway's acts once more, from the stand that it kept, which stays kept. */
  private static void actAgain(ParishRaffle x) {
    x.back();
    x.keep();
    x.swap(0, 1);
    Check.drawFor(x, 2);
    Check.drawFor(x, 3);
    x.refuse();
    x.hand(3, 1);
  }

  // promise 30

  private static void backOfNothing() {
    EDGES.due("new: back()", Parishes.first().back(), NO);
    EDGES.due("bare: back()", Parishes.bare().back(), NO);
    EDGES.due("untouched: back()", Parishes.untouched().back(), NO);
    ParishRaffle x = Parishes.brim();
    EDGES.due("brim: back()", x.back(), 1);
    EDGES.due("brim: back() again", x.back(), 0);
    EDGES.due("brim: back(), nothing being left", x.back(), NO);
    EDGES.due("count(8)", x.count(8), 0);
    EDGES.due("count(4): as kept first", x.count(4), 3);
  }

  private static void backRefused() {
    EDGES.leaves("back() of a new object", Parishes::first, ParishRaffle::back, NO);
    EDGES.leaves("back(), acts to be undone", () -> {
      ParishRaffle x = Parishes.midway();
      x.back();
      x.give(0, 3);
      x.buy(3, 1);
      return x;
    }, ParishRaffle::back, NO);
  }

  /** Back to what was kept, whatever was done since: each act, and all of them. */
  private static void backToEach() {
    for (int act = 0; act < 9; act++) {
      int which = act;
      EDGES.alike("brought back behind act " + act, () -> {
        ParishRaffle x = keptStand();
        x.keep();
        doAct(x, which);
        EDGES.due("back()", x.back(), 0);
        EDGES.due("count(7)", x.count(7), 0);
        return x;
      }, () -> {
        ParishRaffle x = keptStand();
        x.keep();
        x.back();
        return x;
      });
    }
  }

  private static ParishRaffle keptStand() {
    ParishRaffle x = Check.laid("p3;p3;p0;p8;t0,1;t1,2;t3,3;t3,4;");
    Check.drawFor(x, 0, 1, 0);
    return x;
  }

  private static void doAct(ParishRaffle x, int act) {
    if (act == 0 || act == 8) {
      x.refuse();
    }
    if (act == 1 || act == 8) {
      x.draw(0);
    }
    if (act == 2 || act == 8) {
      x.buy(2, 9);
    }
    if (act == 3 || act == 8) {
      x.hand(1, 3);
    }
    if (act == 4 || act == 8) {
      x.swap(0, 1);
    }
    if (act == 5 || act == 8) {
      x.give(1, 2);
    }
    if (act == 6 || act == 8) {
      x.undo();
    }
    if (act == 7 || act == 8) {
      x.undo();
      x.undo();
    }
  }

  /** The one kept last comes first, each once. */
  private static void backInTurn() {
    ParishRaffle x = Check.laid("p9;p9;t0,1;t0,1;t0,1;t0,1;t0,1;t0,1;");
    Check.drawFor(x, 0);
    x.keep();
    Check.drawFor(x, 1, 0);
    x.keep();
    Check.drawFor(x, 1, 0, 1);
    EDGES.due("back()", x.back(), 1);
    EDGES.due("count(4)", x.count(4), 3);
    EDGES.due("count(3)", x.count(3), 3);
    EDGES.due("person(1, 0)", x.person(1, 0), 8);
    EDGES.due("thing(2, 4): as kept", x.thing(2, 4), 1);
    EDGES.due("back()", x.back(), 0);
    EDGES.due("count(4)", x.count(4), 1);
    EDGES.due("person(1, 0)", x.person(1, 0), 9);
    EDGES.due("person(0, 2)", x.person(0, 2), 1);
    EDGES.due("back()", x.back(), NO);
    EDGES.due("undo()", x.undo(), NO);
    EDGES.due("count(4), nothing having changed", x.count(4), 1);
  }

  private static void backLeavesNotesAndText() {
    ParishRaffle x = Check.laid("p1;p2;t0,1;");
    x.note(0);
    x.keep();
    x.forget();
    for (int i = 0; i < 8; i++) {
      x.note(1);
    }
    x.wipe();
    EDGES.due("back()", x.back(), 0);
    EDGES.due("count(6): notes stay", x.count(6), 8);
    EDGES.due("note(0): full as before", x.note(0), FULL);
    EDGES.due("count(9): the text stays", x.count(9), 0);
    EDGES.due("lay(): of an empty text", x.lay(), NO);
    // loaded for 1 by 1 of 2: 4/5 to 2/3 is 6 to 5, eight times
    EDGES.due("fair(1, 5, 0)", x.fair(1, 5, 0), 1679616);
    EDGES.due("fair(1, 5, 1)", x.fair(1, 5, 1), 1679616 + 390625);
    x.keep();
    x.forget();
    Check.write(x, "p1");
    x.back();
    EDGES.due("count(6): nothing comes back", x.count(6), 0);
    EDGES.due("count(9): what was written stays", x.count(9), 2);
  }

  private static void backBehindLay() {
    ParishRaffle x = Parishes.brim();
    EDGES.due("lay()", x.lay(), 5);
    EDGES.due("back()", x.back(), NO);
    EDGES.due("keep()", x.keep(), 1);
    EDGES.due("keep()", x.keep(), 2);
    x.wipe();
    EDGES.due("lay() that can not be", x.lay(), NO);
    EDGES.due("back(): it is kept", x.back(), 1);
  }
}
