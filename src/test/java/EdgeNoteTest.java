import java.math.BigInteger;

/** The edges of promises 24 to 27: note, forget, fair, seats. */
public final class EdgeNoteTest {
  private static final int BAD = ParishRaffle.BAD, FULL = ParishRaffle.FULL, NONE = ParishRaffle.NONE;
  private static final Edges EDGES = new Edges();

  public static void main(String[] args) {
    noteNumbers();
    noteUpToFull();
    noteRefused();
    forget();
    fairNumbers();
    fairOfNothing();
    fairOfEachNumberOfNotes();
    fairOfWhatCanNotBe();
    fairOfTheMost();
    seatsNumbers();
    seatsOfFewAndMany();
    seatsAsLaid();
    askingLeavesAll();
    EDGES.end();
  }

  // promise 24

  private static void noteNumbers() {
    for (int persons = 1; persons <= 5; persons++) {
      ParishRaffle x = Check.laid("p1;".repeat(persons));
      int noted = 0;
      for (int p = -3; p <= 8; p++) {
        boolean is = p >= 0 && p < persons;
        noted += is ? 1 : 0;
        EDGES.due("note(" + p + ") of " + persons, x.note(p), is ? noted : BAD);
        EDGES.due("count(6)", x.count(6), noted);
      }
      for (int far : Edges.FAR) {
        EDGES.due("note(" + far + ")", x.note(far), BAD);
      }
    }
  }

  private static void noteUpToFull() {
    ParishRaffle x = Check.laid("p1;p0;");
    for (int i = 1; i <= 8; i++) {
      EDGES.due("note, the " + i + "-th", x.note(0), i);
    }
    EDGES.due("note(0), the ninth", x.note(0), FULL);
    EDGES.due("note(1), the ninth", x.note(1), FULL);
    EDGES.due("note(2), BAD and FULL", x.note(2), BAD);
    EDGES.due("note(-1), BAD and FULL", x.note(-1), BAD);
    EDGES.due("count(6)", x.count(6), 8);
    // 1, who has no ticket, was not noted
    EDGES.due("fair(0, 5, 1)", x.fair(0, 5, 1), 2);
    EDGES.due("forget()", x.forget(), 8);
    EDGES.due("note(1), who holds none", x.note(1), 1);
    EDGES.due("fair(0, 5, 1), it can not have been", x.fair(0, 5, 1), NONE);
  }

  private static void noteRefused() {
    EDGES.leaves("note(0), FULL", Parishes::brim, x -> x.note(0), FULL);
    EDGES.leaves("note(4), FULL", Parishes::brim, x -> x.note(4), FULL);
    EDGES.leaves("note(5), BAD and FULL", Parishes::brim, x -> x.note(5), BAD);
    EDGES.leaves("note(-1), BAD and FULL", Parishes::brim, x -> x.note(-1), BAD);
    EDGES.leaves("note(4)", Parishes::midway, x -> x.note(4), BAD);
    EDGES.leaves("note(1)", Parishes::bare, x -> x.note(1), BAD);
  }

  // promise 25

  private static void forget() {
    EDGES.leaves("forget() of nothing", Parishes::first, ParishRaffle::forget, 0);
    for (int many = 0; many <= 9; many++) {
      ParishRaffle x = Check.laid("p1;p2;t0,1;");
      for (int i = 0; i < many; i++) {
        x.note(i % 2);
      }
      EDGES.due("forget() of " + many, x.forget(), Math.min(many, 8));
      EDGES.due("forget() again", x.forget(), 0);
      EDGES.due("count(6)", x.count(6), 0);
      EDGES.due("fair(0, 3, 1): nothing is noted", x.fair(0, 3, 1), 10);
      EDGES.due("note(1): the first again", x.note(1), 1);
    }
    // what else there is stays
    EDGES.alike("forgotten, and noted again", () -> {
      ParishRaffle x = Parishes.midway();
      EDGES.due("forget()", x.forget(), 3);
      x.note(3);
      x.note(2);
      x.note(0);
      return x;
    }, Parishes::midway);
  }

  // promise 26

  private static void fairNumbers() {
    for (int persons = 1; persons <= 5; persons += 2) {
      for (int p = -2; p <= 6; p++) {
        ParishRaffle x = Check.laid("p1;".repeat(persons));
        for (int s = -2; s <= 12; s++) {
          for (int part = -2; part <= 3; part++) {
            boolean is = p >= 0 && p < persons && s >= 1 && s <= 9 && part >= 0 && part <= 1;
            int divisor = s == 5 ? 5 : s % 2 == 0 ? 2 : 1;
            EDGES.due("fair(" + p + ", " + s + ", " + part + ") of " + persons, x.fair(p, s, part),
                !is ? BAD : (part == 0 ? s : 10) / divisor);
          }
        }
      }
    }
    for (int far : Edges.FAR) {
      EDGES.due("fair(" + far + ", 5, 0)", Parishes.brim().fair(far, 5, 0), BAD);
      EDGES.due("fair(0, " + far + ", 0)", Parishes.brim().fair(0, far, 0), BAD);
      EDGES.due("fair(0, 5, " + far + ")", Parishes.brim().fair(0, 5, far), BAD);
    }
  }

  private static void fair(ParishRaffle x, int p, int s, long above, long below) {
    EDGES.due("fair(" + p + ", " + s + ", 0)", x.fair(p, s, 0), above);
    EDGES.due("fair(" + p + ", " + s + ", 1)", x.fair(p, s, 1), below);
  }

  /** Nothing noted tells nothing, whoever holds what. */
  private static void fairOfNothing() {
    fair(Parishes.bare(), 0, 1, 1, 10);
    fair(Parishes.bare(), 0, 9, 9, 10);
    fair(Parishes.ticketless(), 2, 5, 1, 2);
    fair(Parishes.untouched(), 4, 9, 9, 10);
    fair(Parishes.first(), 3, 4, 2, 5);
    // one who holds all, or none: as likely by both hats
    ParishRaffle x = Check.laid("p7;p0;");
    for (int i = 0; i < 8; i++) {
      x.note(0);
      fair(x, 0, 3, 3, 10);
      fair(x, 1, 7, 7, 10);
    }
  }

  /** Two of one ticket each: noted is 2/3 or 1/3 by the one hat, 1/2 by the other. */
  private static void fairOfEachNumberOfNotes() {
    for (int mine = 0; mine <= 8; mine++) {
      for (int others = 0; mine + others <= 8; others++) {
        ParishRaffle x = Check.laid("p1;p1;");
        for (int i = 0; i < mine + others; i++) {
          x.note(i < mine ? 0 : 1);
        }
        for (int s = 1; s <= 9; s += 4) {
          // s (4/3)^mine (2/3)^others to 10 - s, times 3^all
          BigInteger such = BigInteger.valueOf(s).shiftLeft(2 * mine + others);
          BigInteger even = BigInteger.valueOf(3).pow(mine + others).multiply(BigInteger.valueOf(10 - s));
          BigInteger divisor = such.gcd(even);
          fair(x, 0, s, such.divide(divisor).longValueExact(), such.add(even).divide(divisor).longValueExact());
        }
      }
    }
  }

  private static void fairOfWhatCanNotBe() {
    // the first, or the last of eight, can not have been
    for (int at = 0; at < 8; at++) {
      ParishRaffle x = Check.laid("p1;p0;p2;");
      for (int i = 0; i < 8; i++) {
        x.note(i == at ? 1 : 0);
      }
      for (int p = 0; p < 3; p++) {
        fair(x, p, 1, NONE, NONE);
        fair(x, p, 9, NONE, NONE);
      }
      EDGES.due("fair(3, 5, 0), BAD ahead of NONE", x.fair(3, 5, 0), BAD);
      EDGES.due("fair(0, 0, 0), BAD ahead of NONE", x.fair(0, 0, 0), BAD);
      EDGES.due("fair(0, 10, 0), BAD ahead of NONE", x.fair(0, 10, 0), BAD);
      EDGES.due("fair(0, 5, 2), BAD ahead of NONE", x.fair(0, 5, 2), BAD);
    }
    ParishRaffle y = Parishes.bare();
    y.note(0);
    fair(y, 0, 5, NONE, NONE);
    // as laid: a ticket that was bought since does not count, one that is out does
    y.buy(0, 9);
    fair(y, 0, 5, NONE, NONE);
    ParishRaffle z = Check.laid("p1;p1;t0,1;");
    Check.drawFor(z, 0);
    z.note(0);
    fair(z, 0, 5, 4, 7);
    z.hand(1, 0);
    fair(z, 0, 5, 4, 7);
    fair(z, 1, 5, 2, 5);
  }

  /** 45 tickets, or 44, and 8 notes: numbers beyond an int. */
  private static void fairOfTheMost() {
    for (int held = 1; held <= 9; held++) {
      for (int mine = 0; mine <= 8; mine += 4) {
        ParishRaffle x = Check.laid("p9;p9;p" + held + ";p9;p9;");
        for (int i = 0; i < 8; i++) {
          x.note(i < mine ? 2 : 4);
        }
        BigInteger such = BigInteger.valueOf(36 + held).pow(8).shiftLeft(mine).multiply(BigInteger.valueOf(9));
        BigInteger even = BigInteger.valueOf(36 + 2 * held).pow(8);
        BigInteger both = such.add(even);
        BigInteger divisor = such.gcd(even);
        fair(x, 2, 9, such.divide(divisor).longValueExact(), both.divide(divisor).longValueExact());
      }
    }
  }

  // promise 27

  private static void seatsNumbers() {
    for (int persons = 1; persons <= 5; persons++) {
      ParishRaffle x = Check.laid("p1;".repeat(persons));
      long rows = 1;
      for (int m = -3; m <= 12; m++) {
        // any person first, then any but the one ahead
        rows = m <= 0 ? 1 : rows * (m == 1 ? persons : persons - 1);
        EDGES.due("seats(" + m + ") of " + persons, x.seats(m), m < 0 || m > 8 ? BAD : rows);
      }
      for (int far : Edges.FAR) {
        EDGES.due("seats(" + far + ")", x.seats(far), BAD);
      }
    }
  }

  private static void seatsOfFewAndMany() {
    for (int m = 0; m <= 8; m++) {
      EDGES.due("bare: seats(" + m + ")", Parishes.bare().seats(m), m == 0 ? 1 : 0);
      EDGES.due("ticketless: seats(" + m + ")", Parishes.ticketless().seats(m), m == 0 ? 1 : 0);
      long alone = m == 0 ? 1 : m == 1 ? 9 : 0;
      EDGES.due("one who holds: seats(" + m + ")", Check.laid("p0;p9;p0;").seats(m), alone);
      // two take turns, either of them first
      long turns = 1;
      long other = 1;
      for (int i = 0; i < m; i++) {
        turns *= i % 2 == 0 ? 2 : 9;
        other *= i % 2 == 0 ? 9 : 2;
      }
      EDGES.due("two: seats(" + m + ")", Check.laid("p2;p9;").seats(m), m == 0 ? 1 : turns + other);
      long most = m == 0 ? 1 : 45 * BigInteger.valueOf(36).pow(m - 1).longValueExact();
      EDGES.due("45: seats(" + m + ")", Parishes.untouched().seats(m), most);
    }
  }

  private static void seatsAsLaid() {
    ParishRaffle x = Check.laid("p1;p2;t0,1;");
    EDGES.due("seats(2)", x.seats(2), 4);
    x.buy(0, 8);
    Check.drawFor(x, 1);
    x.hand(0, 1);
    EDGES.due("seats(2), as laid", x.seats(2), 4);
    EDGES.due("seats(1), as laid", x.seats(1), 3);
  }

  private static void askingLeavesAll() {
    EDGES.leaves("fair(5, 5, 0)", Parishes::brim, x -> x.fair(5, 5, 0), BAD);
    EDGES.leaves("fair(0, 10, 0)", Parishes::brim, x -> x.fair(0, 10, 0), BAD);
    EDGES.leaves("fair(0, 5, 2)", Parishes::brim, x -> x.fair(0, 5, 2), BAD);
    // 0 is noted twice of eight, 36 of 45 are others': 4 45^8 to 54^8
    EDGES.leaves("fair(0, 5, 0)", Parishes::brim, x -> x.fair(0, 5, 0), 390625);
    EDGES.leaves("seats(9)", Parishes::brim, x -> x.seats(9), BAD);
    EDGES.leaves("seats(-1)", Parishes::brim, x -> x.seats(-1), BAD);
    EDGES.leaves("seats(2)", Parishes::brim, x -> x.seats(2), 1620);
    EDGES.leaves("fair(3, 5, 0) of none", () -> {
      ParishRaffle x = new ParishRaffle();
      x.note(3);
      return x;
    }, x -> x.fair(3, 5, 0), NONE);
  }
}
