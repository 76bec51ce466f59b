/** Objects as they stand at the edges: new, bare, in the middle of things, full to the brim. */
final class Parishes {
  /** 200 letters: 5 persons of 9 tickets, 6 things, 21 likes. */
  static final String BRIM_TEXT = "p9;p9;p9;p9;p9;t0,12;t1,8;t3,10;t2,6;t3,7;t0,3;" + brimLikes();

  /** What is laid at first. */
  static final String FIRST_TEXT =
      "p3;p1;p5;p0;p2;t0,12;t1,8;t3,10;t2,6;t3,7;t0,3;l0,0,4;l1,2,6;l2,1,5;l2,4,9;l4,5,12;l3,0,20;";

  private Parishes() {
  }

  private static String brimLikes() {
    StringBuilder s = new StringBuilder();
    for (int i = 0; i < 21; i++) {
      s.append('l').append(i % 5).append(',').append(i % 6).append(',');
      s.append(i < 15 ? 1 + i % 9 : 10 + i).append(';');
    }
    return s.toString();
  }

  static ParishRaffle first() {
    return new ParishRaffle();
  }

  /** One person, who has no ticket, and no thing. */
  static ParishRaffle bare() {
    return Check.laid("p0;");
  }

  /** Tickets, but no thing. */
  static ParishRaffle thingless() {
    return Check.laid("p2;p9;");
  }

  /** Things, but no ticket. */
  static ParishRaffle ticketless() {
    return Check.laid("p0;p0;p0;t0,5;t2,6;");
  }

  /** As laid, and nothing done: 5 persons of 9 tickets, 6 things. */
  static ParishRaffle untouched() {
    return Check.laid(BRIM_TEXT);
  }

  /**
   * Thing 0 is with 1, 1 with 0, 2 with 2, and 3, once refused, is next; tickets 2, 1, 4, 0; seven
   * acts can be undone, three are noted, one is kept, the text has a fault.
   */
  static ParishRaffle midway() {
    ParishRaffle x = Check.laid("p3;p1;p5;p2;t0,12;t1,8;t3,10;t3,7;t2,6;t0,3;l0,0,4;l2,3,9;l3,0,20;");
    x.note(0);
    x.note(2);
    Check.drawFor(x, 0, 1);
    x.keep();
    x.note(3);
    x.swap(0, 1);
    Check.drawFor(x, 2);
    Check.drawFor(x, 3);
    x.refuse();
    x.hand(3, 1);
    x.write('x');
    return x;
  }

  /** Nothing more can be: 45 tickets, 6 things drawn, 8 noted, 8 to undo, 2 kept, 200 letters. */
  static ParishRaffle brim() {
    ParishRaffle x = Check.laid(BRIM_TEXT);
    for (int i = 0; i < 8; i++) {
      x.note(i % 5);
    }
    Check.drawFor(x, 0, 1, 2);
    x.keep();
    Check.drawFor(x, 3, 4);
    x.keep();
    Check.drawFor(x, 0);
    x.buy(0, 2);
    for (int p = 1; p < 5; p++) {
      x.buy(p, 1);
    }
    return x;
  }
}
