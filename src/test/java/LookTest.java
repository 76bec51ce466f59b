/** Promises 6 to 8 and 31: person, thing, likes, count. */
public final class LookTest {
  private static final Check CHECK = new Check();

  public static void main(String[] args) {
    person();
    worth();
    thing();
    likes();
    count();
    wrongNumbers();
    CHECK.end();
  }

  private static void person() {
    ParishRaffle x = new ParishRaffle();
    Check.drawFor(x, 2, 0, 2);
    CHECK.due("person(2, 0)", x.person(2, 0), 3);
    CHECK.due("person(2, 1)", x.person(2, 1), 5);
    CHECK.due("person(2, 2)", x.person(2, 2), 5);
    CHECK.due("person(2, 3)", x.person(2, 3), 1012);
    CHECK.due("person(0, 2)", x.person(0, 2), 2);
    CHECK.due("person(0, 3)", x.person(0, 3), 992);
    CHECK.due("person(1, 2)", x.person(1, 2), 0);
  }

  /** What one has to whom these persons' draws went, told as 1000 and worth of person 0. */
  private static void worthOf(String things, int many, int due) {
    ParishRaffle x = Check.laid("p9;p9;" + things);
    for (int i = 0; i < many; i++) {
      Check.drawFor(x, 0);
    }
    CHECK.due("person(0, 3) of " + things, x.person(0, 3), due);
    CHECK.due("count(5) of " + things, x.count(5), due);
  }

  private static void worth() {
    worthOf("t0,5;", 0, 1000);
    worthOf("t0,5;", 1, 1005);
    worthOf("t0,5;l0,0,3;l1,0,9;", 1, 1008);
    worthOf("t1,5;", 1, 995);
    worthOf("t1,5;l0,0,3;", 1, 998);
    worthOf("t1,5;t0,1;", 2, 996);
    worthOf("t2,5;", 1, 995);
    worthOf("t2,5;l0,0,3;", 1, 998);
    worthOf("t2,5;t0,1;l0,0,3;", 2, 1004);
    worthOf("t2,5;t0,0;", 2, 1000);
    worthOf("t2,5;t2,6;t0,0;", 3, 1000);
    worthOf("t2,5;t3,1;t3,2;", 3, 998);
    worthOf("t2,5;t2,6;", 2, 989);
    worthOf("t2,5;t1,6;", 2, 989);
    worthOf("t3,5;", 1, 1000);
    worthOf("t3,5;l0,0,3;", 1, 1003);
    worthOf("t3,5;t0,4;", 2, 1004);
    worthOf("t3,5;t3,7;", 2, 1012);
    worthOf("t3,5;t3,7;l0,1,3;", 2, 1015);
    worthOf("t3,5;t3,7;t3,1;", 3, 1013);
    worthOf("t1,30;t1,30;t1,30;t1,30;t1,30;t1,30;", 6, 820);
    worthOf("t0,30;t0,30;t0,30;t3,30;t3,30;t3,30;l0,0,30;l0,1,30;l0,2,30;l0,3,30;l0,4,30;l0,5,30;", 6, 1360);
    // what another one has does not count for this one
    ParishRaffle x = Check.laid("p9;p9;t2,5;t0,4;t3,3;t3,2;");
    Check.drawFor(x, 0, 1, 0, 1);
    CHECK.due("person(0, 3) beside another", x.person(0, 3), 995);
    CHECK.due("person(1, 3) beside another", x.person(1, 3), 1004);
    CHECK.due("count(5) of both", x.count(5), 999);
  }

  private static void things(ParishRaffle x, int t, int has, int drawn, int open) {
    CHECK.due("thing(" + t + ", 2)", x.thing(t, 2), has);
    CHECK.due("thing(" + t + ", 3)", x.thing(t, 3), drawn);
    CHECK.due("thing(" + t + ", 4)", x.thing(t, 4), open);
  }

  private static void thing() {
    ParishRaffle x = Check.laid("p9;p9;t2,30;t1,8;t3,0;");
    CHECK.due("thing(0, 0)", x.thing(0, 0), 2);
    CHECK.due("thing(1, 0)", x.thing(1, 0), 1);
    CHECK.due("thing(0, 1)", x.thing(0, 1), 30);
    CHECK.due("thing(2, 1)", x.thing(2, 1), 0);
    things(x, 0, ParishRaffle.NONE, 0, 0);
    Check.drawFor(x, 1);
    things(x, 0, 1, 1, 1);
    things(x, 1, ParishRaffle.NONE, 0, 0);
    Check.drawFor(x, 0);
    things(x, 0, 1, 1, 0);
    things(x, 1, 0, 1, 1);
    x.refuse();
    things(x, 0, 1, 1, 0);
    things(x, 1, ParishRaffle.NONE, 0, 0);
    Check.drawFor(x, 0);
    things(x, 1, 0, 1, 0);
    Check.drawFor(x, 0);
    things(x, 2, 0, 1, 1);
    x.give(2, 1);
    things(x, 2, 1, 1, 0);
  }

  private static void likes() {
    ParishRaffle x = Check.laid("p1;p1;t0,1;t0,1;l0,1,7;l1,0,30;l0,1,0;l1,1,8;");
    CHECK.due("likes(0, 0)", x.likes(0, 0), 0);
    CHECK.due("likes(0, 1)", x.likes(0, 1), 0);
    CHECK.due("likes(1, 0)", x.likes(1, 0), 30);
    CHECK.due("likes(1, 1)", x.likes(1, 1), 8);
    Check.drawFor(x, 0);
    CHECK.due("likes(1, 0) of what another has", x.likes(1, 0), 30);
  }

  private static void count() {
    ParishRaffle x = Check.laid("p4;p5;p0;t0,9;t1,2;t0,3;l1,1,1;");
    x.note(0);
    x.note(2);
    Check.drawFor(x, 0, 1);
    x.keep();
    x.buy(2, 2);
    int[] counts = {3, 3, 9, 2, 2, 1008, 2, 3, 1, 31};
    for (int what = 0; what < counts.length; what++) {
      CHECK.due("count(" + what + ")", x.count(what), counts[what]);
    }
    Check.drawFor(x, 2);
    CHECK.due("count(3), nothing being next", x.count(3), ParishRaffle.NONE);
    CHECK.due("count(4)", x.count(4), 3);
    x.refuse();
    CHECK.due("count(3) of what was refused", x.count(3), 2);
    CHECK.due("count(4) then", x.count(4), 2);
    ParishRaffle y = Check.laid("p0;t0,9;");
    CHECK.due("count(3), the hat being empty", y.count(3), 0);
    CHECK.due("count(2)", y.count(2), 0);
  }

  private static void wrongNumbers() {
    ParishRaffle x = Check.laid("p4;p5;t0,9;t1,2;t0,3;");
    int[] odd = {-1, -4, Integer.MIN_VALUE, Integer.MAX_VALUE};
    for (int i : odd) {
      CHECK.due("person(" + i + ", 0)", x.person(i, 0), ParishRaffle.BAD);
      CHECK.due("person(0, " + i + ")", x.person(0, i), ParishRaffle.BAD);
      CHECK.due("thing(" + i + ", 0)", x.thing(i, 0), ParishRaffle.BAD);
      CHECK.due("thing(0, " + i + ")", x.thing(0, i), ParishRaffle.BAD);
      CHECK.due("likes(" + i + ", 0)", x.likes(i, 0), ParishRaffle.BAD);
      CHECK.due("likes(0, " + i + ")", x.likes(0, i), ParishRaffle.BAD);
      CHECK.due("count(" + i + ")", x.count(i), ParishRaffle.BAD);
    }
    CHECK.due("person(2, 0)", x.person(2, 0), ParishRaffle.BAD);
    CHECK.due("person(0, 4)", x.person(0, 4), ParishRaffle.BAD);
    CHECK.due("thing(3, 0)", x.thing(3, 0), ParishRaffle.BAD);
    CHECK.due("thing(0, 5)", x.thing(0, 5), ParishRaffle.BAD);
    CHECK.due("likes(2, 0)", x.likes(2, 0), ParishRaffle.BAD);
    CHECK.due("likes(0, 3)", x.likes(0, 3), ParishRaffle.BAD);
    CHECK.due("count(10)", x.count(10), ParishRaffle.BAD);
  }
}
