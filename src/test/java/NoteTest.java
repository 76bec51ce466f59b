/** Promises 24 to 27: note, forget, fair, seats. */
public final class NoteTest {
  private static final int BAD = ParishRaffle.BAD, FULL = ParishRaffle.FULL, NONE = ParishRaffle.NONE;
  private static final Check CHECK = new Check();

  public static void main(String[] args) {
    note();
    fair();
    fairOfWhatCanNotBe();
    fairByTheHatAsLaid();
    seats();
    CHECK.end();
  }

  private static void note() {
    ParishRaffle x = Check.laid("p1;p0;");
    CHECK.due("forget() of nothing", x.forget(), 0);
    CHECK.due("note(2)", x.note(2), BAD);
    CHECK.due("note(-1)", x.note(-1), BAD);
    CHECK.due("count(6)", x.count(6), 0);
    for (int i = 1; i <= 8; i++) {
      CHECK.due("note, the " + i + "-th", x.note(i % 2), i);
    }
    CHECK.due("note, the ninth", x.note(0), FULL);
    CHECK.due("note, the ninth and BAD", x.note(2), BAD);
    CHECK.due("count(6) of 8", x.count(6), 8);
    CHECK.due("count(7)", x.count(7), 0);
    CHECK.due("undo()", x.undo(), ParishRaffle.NO);
    CHECK.due("forget()", x.forget(), 8);
    CHECK.due("count(6) then", x.count(6), 0);
    CHECK.due("note(0) then", x.note(0), 1);
  }

  private static void fair(ParishRaffle x, int p, int s, long above, long below) {
    CHECK.due("fair(" + p + ", " + s + ", 0)", x.fair(p, s, 0), above);
    CHECK.due("fair(" + p + ", " + s + ", 1)", x.fair(p, s, 1), below);
  }

  private static void fair() {
    ParishRaffle x = Check.laid("p1;p2;p0;");
    fair(x, 0, 1, 1, 10);
    fair(x, 0, 4, 2, 5);
    fair(x, 2, 9, 9, 10);
    x.note(0);
    // loaded for 0: 2 of 4, else 1 of 3
    fair(x, 0, 5, 3, 5);
    fair(x, 0, 1, 1, 7);
    // loaded for 1: 1 of 5
    fair(x, 1, 5, 3, 8);
    // it has no tickets: nothing is learnt
    fair(x, 2, 3, 3, 10);
    x.note(1);
    // loaded for 0: 2/4 2/4, else 1/3 2/3; for 1: 1/5 4/5
    fair(x, 0, 5, 9, 17);
    fair(x, 1, 5, 18, 43);
    x.forget();
    fair(x, 0, 5, 1, 2);
    ParishRaffle y = Check.laid("p9;p9;p9;p9;p9;");
    for (int i = 0; i < 8; i++) {
      y.note(0);
    }
    // 2 / 54 to 1 / 45 is 5 to 3, eight times, and 9 to 1: by 9, 5^8 to 3^6
    fair(y, 0, 9, power(5, 8), power(5, 8) + power(3, 6));
    // 1 / 54 to 1 / 45 is 5 to 6, and 9 to 1
    fair(y, 1, 9, power(5, 8), power(5, 8) + power(6, 8) / 9);
    ParishRaffle z = Check.laid("p8;p9;p9;p9;p9;");
    for (int i = 0; i < 8; i++) {
      z.note(i < 7 ? 0 : 1);
    }
    // 88 to 52 is 22 to 13 seven times, 44 to 52 is 11 to 13 once
    long loaded = 7 * power(22, 7) * 11;
    long even = 3 * power(13, 8);
    fair(z, 0, 7, loaded, loaded + even);
  }

  private static long power(long base, int times) {
    return times == 0 ? 1 : base * power(base, times - 1);
  }

  private static void fairOfWhatCanNotBe() {
    ParishRaffle x = Check.laid("p1;p2;p0;");
    x.note(0);
    x.note(2);
    for (int p = 0; p < 3; p++) {
      fair(x, p, 5, NONE, NONE);
    }
    CHECK.due("fair(3, 5, 0)", x.fair(3, 5, 0), BAD);
    CHECK.due("fair(-1, 5, 0)", x.fair(-1, 5, 0), BAD);
    CHECK.due("fair(0, 0, 0)", x.fair(0, 0, 0), BAD);
    CHECK.due("fair(0, 10, 0)", x.fair(0, 10, 0), BAD);
    CHECK.due("fair(0, 5, 2)", x.fair(0, 5, 2), BAD);
    CHECK.due("fair(0, 5, -1)", x.fair(0, 5, -1), BAD);
    x.forget();
    fair(x, 0, 5, 1, 2);
    ParishRaffle y = Check.laid("p0;");
    fair(y, 0, 6, 3, 5);
    y.note(0);
    fair(y, 0, 6, NONE, NONE);
  }

  private static void fairByTheHatAsLaid() {
    ParishRaffle x = Check.laid("p1;p2;p0;t0,1;");
    x.buy(0, 8);
    x.buy(2, 3);
    Check.drawFor(x, 1);
    x.note(0);
    fair(x, 0, 5, 3, 5);
    CHECK.due("seats(1)", x.seats(1), 3);
    CHECK.due("seats(2)", x.seats(2), 4);
    x.note(2);
    fair(x, 0, 5, NONE, NONE);
    // notes stay by undo and back
    x.keep();
    x.undo();
    x.back();
    CHECK.due("count(6)", x.count(6), 2);
  }

  private static void seats() {
    ParishRaffle x = Check.laid("p1;p2;p0;p3;");
    CHECK.due("seats(0)", x.seats(0), 1);
    CHECK.due("seats(1)", x.seats(1), 6);
    // 36 less 1, 4, 9
    CHECK.due("seats(2)", x.seats(2), 22);
    // ends by 0: 5, by 1: 8, by 3: 9; then 1 * 17 + 2 * 14 + 3 * 13
    CHECK.due("seats(3)", x.seats(3), 84);
    CHECK.due("seats(9)", x.seats(9), BAD);
    CHECK.due("seats(-1)", x.seats(-1), BAD);
    CHECK.due("seats(most)", x.seats(Integer.MAX_VALUE), BAD);
    ParishRaffle one = Check.laid("p9;");
    CHECK.due("seats(0) of one", one.seats(0), 1);
    CHECK.due("seats(1) of one", one.seats(1), 9);
    CHECK.due("seats(2) of one", one.seats(2), 0);
    CHECK.due("seats(8) of one", one.seats(8), 0);
    ParishRaffle none = Check.laid("p0;p0;");
    CHECK.due("seats(0) of an empty hat", none.seats(0), 1);
    CHECK.due("seats(1) of an empty hat", none.seats(1), 0);
    CHECK.due("seats(8) of an empty hat", none.seats(8), 0);
    ParishRaffle all = Check.laid("p9;p9;p9;p9;p9;");
    CHECK.due("seats(8) of 45", all.seats(8), 45 * power(36, 7));
    CHECK.due("seats(8) of 11", new ParishRaffle().seats(8), 16529688);
  }
}
