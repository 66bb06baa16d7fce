/** Promises 35 and 36 (rests, rest) and the Term WAITING: each code, least and most. */
public final class WaitingBoundsTest {
  private static final int LOW = Integer.MIN_VALUE;
  private static final int HIGH = Integer.MAX_VALUE;

  public static void main(String[] args) {
    people();
    bothOne();
    tunes();
    bounds();
    oneSits();
    restK();
    restOrder();
    zeroToTheBound();
    bothAsMany();
    stoodToTheirEnd();
    goesOnAlone();
    painOfTheseMinutes();
    fromNowOn();
    worths();
    asksOnly();
    Check.end();
  }

  private static void both(String label, int p, int q, int tune, int bound, int code) {
    Twin.leaves("P35 " + label, x -> x.rests(p, q, tune, bound), code);
    for (int k : new int[] {-1, 0, 500}) Twin.leaves("P36 " + label + ", k " + k, x -> x.rest(p, q, tune, bound, k), code);
  }

  /** -2: PEOPLE, ahead of -3 and -5. */
  private static void people() {
    for (int p : new int[] {LOW, -1, 4, 5, HIGH}) {
      both("no person " + p + ", the first", p, 0, 0, 2, -2);
      both("no person " + p + ", the second", 0, p, 0, 2, -2);
      both("no person " + p + ", ahead of the bound", 0, p, 0, 21, -2);
      both("no person " + p + ", ahead of sitting", 3, p, 0, 2, -2);
    }
    Check.due("P35 no people", new StandRank().rests(0, 1, 0, 0), -2);
  }

  /** -2: both one. */
  private static void bothOne() {
    for (int p = -1; p <= 4; p++) {
      both("both one, " + p, p, p, 0, 2, -2);
      both("both one, " + p + ", ahead of the bound", p, p, 0, -1, -2);
    }
  }

  /** -2: the TUNE, ahead of -3 and -5. */
  private static void tunes() {
    for (int t : new int[] {LOW, -1, 2, 3, HIGH}) {
      both("no tune " + t, 0, 1, t, 2, -2);
      both("no tune " + t + ", ahead of the bound", 0, 1, t, 21, -2);
      both("no tune " + t + ", ahead of sitting", 0, 3, t, 2, -2);
    }
    Check.due("P35 the last tune", Twin.busy().rests(0, 1, 1, 0), 1);
    Check.due("P35 no tunes", Check.told("court;person strength 1;person strength 1;").rests(0, 1, 0, 0), -2);
  }

  /** -3: the bound (0 to 20), ahead of -5. */
  private static void bounds() {
    for (int bound : new int[] {LOW, -1, 21, 22, HIGH}) {
      both("bound " + bound, 0, 1, 0, bound, -3);
      both("bound " + bound + ", ahead of sitting", 0, 3, 0, bound, -3);
    }
    StandRank x = Check.told("court;person strength 99;person strength 99;tune;pains : 0;");
    for (int bound = 0; bound <= 20; bound++) {
      Check.due("P35 all rest, bound " + bound, x.rests(0, 1, 0, bound), (bound + 1) * (bound + 1));
      Check.due("P36 the first, bound " + bound, x.rest(0, 1, 0, bound, 0), 0);
      Check.due("P36 the last, bound " + bound, x.rest(0, 1, 0, bound, (bound + 1) * (bound + 1) - 1), 101 * bound);
      Check.due("P36 not so many, bound " + bound, x.rest(0, 1, 0, bound, (bound + 1) * (bound + 1)), -1);
    }
  }

  /** -5: one SITS now. */
  private static void oneSits() {
    for (int p : new int[] {2, 3}) {
      both("the first sits, " + p, p, 0, 0, 2, -5);
      both("the second sits, " + p, 0, p, 0, 2, -5);
    }
    both("both sit", 2, 3, 0, 2, -5);
    both("one sits, bound 0", 2, 0, 0, 0, -5);
  }

  /** Promise 36: NONE: not so many; behind all these -3: k is below 0. */
  private static void restK() {
    for (int k : new int[] {LOW, -2, -1}) Twin.leaves("P36 rest(0, 1, 0, 2, " + k + ")", x -> x.rest(0, 1, 0, 2, k), -3);
    StandRank x = Check.told("court;person strength 50;person strength 50;tune;pains : 3;office 9;office 4;");
    Check.due("P35 two", x.rests(0, 1, 0, 1), 2);
    Check.due("P36 the first", x.rest(0, 1, 0, 1, 0), 1);
    Check.due("P36 the second", x.rest(0, 1, 0, 1, 1), 100);
    for (int k : new int[] {2, 3, 440, 441, 442, HIGH}) Check.due("P36 not so many, " + k, x.rest(0, 1, 0, 1, k), -1);
    Check.due("P36 below 0, ahead of NONE", x.rest(0, 1, 0, 1, -1), -3);
  }

  /** Terms, REST: the first by the first one's number, then the second one's. */
  private static void restOrder() {
    StandRank x = Check.told("court;person strength 99;person strength 99;tune;pains : 0;");
    int k = 0;
    for (int a = 0; a <= 20; a++) for (int b = 0; b <= 20; b++, k++) Check.due("P36 rest " + k, x.rest(0, 1, 0, 20, k), 100 * a + b);
    // each tells its own number of minutes: 0 one, 1 two, 2 three, whoever was asked for ahead
    String three = "court;person strength 99;person strength 99;person strength 99;tune;pains : if minute > who then 1 else 0 - 1 end;";
    for (int p = 0; p < 3; p++) for (int q = 0; q < 3; q++) for (int a = 0; a < 3; a++) for (int b = 0; b < 3; b++) if (p != q && a != b) {
      StandRank y = Check.told(three);
      y.rests(a, b, 0, 4);
      Check.due("P36 rest(" + p + ", " + q + ", ..) behind (" + a + ", " + b + ", ..)", y.rest(p, q, 0, 4, 0), 100 * (p + 1) + q + 1);
    }
    // who is asked for first is the first one
    x = Check.told("court;person strength 99;person strength 99;tune;pains : if who = 0 then 1 else 0 - 1 end;");
    Check.due("P36 0 and 1", x.rest(0, 1, 0, 7, 0), 7);
    Check.due("P36 1 and 0", x.rest(1, 0, 0, 7, 0), 700);
  }

  private static void rests(String label, StandRank x, int bound, int... told) {
    Check.due("P35 " + label, x.rests(0, 1, 0, bound), told.length);
    for (int k = 0; k < told.length; k++) Check.due("P36 " + label + ", " + k, x.rest(0, 1, 0, bound, k), told[k]);
    Check.due("P36 " + label + ", no more", x.rest(0, 1, 0, bound, told.length), -1);
  }

  /** Terms, WAITING: 0 to the bound. */
  private static void zeroToTheBound() {
    StandRank paid = Check.told("court;person strength 99;person strength 99;tune;pains : 0 - 1;");
    StandRank pained = Check.told("court;person strength 99;person strength 99;tune;pains : 1;");
    for (int bound : new int[] {0, 1, 2, 19, 20}) {
      rests("paid: to the bound " + bound, paid, bound, 101 * bound);
      rests("pained: 0, bound " + bound, pained, bound, 0);
    }
    for (int bound : new int[] {20, 19, 2, 1, 0}) {
      rests("paid: to the bound " + bound + ", asked for less and less", paid, bound, 101 * bound);
    }
    // without pain one of both tells the bound, the other one what it likes
    StandRank free = Check.told("court;person strength 99;person strength 99;tune;pains : 0;office 9;office 4;");
    for (int bound : new int[] {0, 1, 2, 19, 20, 3}) {
      Check.due("P35 one tells the bound " + bound, free.rests(0, 1, 0, bound), 2 * bound + 1);
      for (int k = 0; k < bound; k++) {
        Check.due("P36 the second one tells the bound " + bound, free.rest(0, 1, 0, bound, k), 100 * k + bound);
        Check.due("P36 the first one tells the bound " + bound, free.rest(0, 1, 0, bound, bound + k), 100 * bound + k);
      }
    }
    // of two tunes, whichever was asked for ahead
    String two = "court;person strength 99;person strength 99;tune;tune;pains : if tune = 0 then 0 - 1 else 3 end;office 9;office 4;";
    for (int t = 0; t < 2; t++) for (int bound = 0; bound <= 2; bound++) for (int then = 0; then < 2; then++) for (int other = 0; other <= 2; other++) {
      StandRank y = Check.told(two);
      y.rests(0, 1, t, bound);
      Check.due("P35 rests(0, 1, " + then + ", " + other + ") behind (" + t + ", " + bound + ")", y.rests(0, 1, then, other), then == 0 || other == 0 ? 1 : 2);
      y.rests(0, 1, t, bound);
      Check.due("P36 rest(0, 1, " + then + ", " + other + ", 0) behind (" + t + ", " + bound + ")", y.rest(0, 1, then, other, 0), then == 0 ? 101 * other : other == 0 ? 0 : 1);
    }
    // to stand one minute longer wins 5 and costs 5 each: with a bound of 1 one of both, or none, may
    StandRank x = Check.told("court;person strength 99;person strength 99;tune;pains : 5;office 9;office 4;");
    rests("costs what it wins", x, 1, 0, 1, 100);
    x = Check.told("court;person strength 99;person strength 99;tune;pains : 6;office 9;office 4;");
    rests("costs more than it wins", x, 1, 0);
    x = Check.told("court;person strength 99;person strength 99;tune;pains : 4;office 9;office 4;");
    rests("costs less than it wins", x, 1, 1, 100);
  }

  /** Terms, WAITING: both as many: both PLACE 1. */
  private static void bothAsMany() {
    StandRank x = Check.told("court;person strength 99;person strength 99;tune;pains : 0;office 10;office 20;");
    // the second place is worth more, and both have it by telling the same
    rests("both second", x, 1, 0, 101);
    x = Check.told("court;person strength 99;person strength 99;tune;pains : 0;office 20;office 10;");
    // to be first one must tell more than the other one, who then wins by no more
    rests("one first", x, 1, 1, 100, 101);
    x = Check.told("court;person strength 99;person strength 99;tune;pains : 0;office 0;office 10;office 30;");
    rests("no third place", x, 1, 0, 101);
  }

  /** Terms, WAITING: STOOD more MINUTES to their end; who is tired out has the PAIN of that MINUTE, but didn't stand to its end. */
  private static void stoodToTheirEnd() {
    StandRank x = Check.told("court;person strength 1;person strength 99;tune;pains : 0;office 9;");
    // 0 stands one minute at most: 1 is first by 2 minutes, by 1 when 0 tells 0
    rests("tired out", x, 2, 1, 2, 102, 202);
    x = Check.told("court;person strength 0;person strength 0;tune;pains : 0;office 9;");
    Check.due("P35 both tired out at once: all alike", x.rests(0, 1, 0, 3), 16);
    x = Check.told("court;person strength 0;person strength 0;tune;pains : 1;office 9;");
    rests("tired out at once, with the pain of it", x, 3, 0);
    x = Check.told("court;person strength 0;person strength 0;tune;pains : 0 - 1;office 9;");
    // one minute's pay, however much more is told
    rests("tired out at once, with the pay of it", x, 2, 101, 102, 201, 202);
  }

  /** Terms, WAITING: the one goes on alone when the other one SITS, to what it told. */
  private static void goesOnAlone() {
    // alone a minute is paid by 3, beside the other one it pains by 1
    StandRank x = Check.told("court;person strength 99;person strength 99;tune;pains : if up = 1 then 0 - 3 else 1 end;");
    rests("alone it is paid", x, 1, 1, 100);
    rests("alone it is paid, longer", x, 3, 3, 300);
    // standing beside the other one is paid, alone it pains
    x = Check.told("court;person strength 99;person strength 99;tune;pains : if beside = 1 then 0 - 1 else 3 end;");
    rests("together it is paid", x, 2, 0, 101, 202);
  }

  /** Terms, WAITING: less its PAIN in all these MINUTES, not of those ahead. */
  private static void painOfTheseMinutes() {
    StandRank x = Check.told("court;person strength 99;person strength 99;tune;tune;pains : if tune = 0 then 4 else 99 end;office 9;office 4;");
    rests("ahead of all minutes", x, 1, 1, 100);
    for (int k = 0; k < 3; k++) x.play(1);
    rests("behind others that pained", x, 1, 1, 100);
    Check.due("P35 the pain of now stays", x.person(0, 5), 297);
  }

  /** Terms, WAITING: both STAND with what they have now, all others gone. */
  private static void fromNowOn() {
    StandRank x = Check.told("court;person strength 3;person strength 9;person strength 9;tune;pains : 0 - 1;");
    // by strength 3 it is paid for four minutes
    Check.due("P36 four", x.rest(0, 1, 0, 9, 0), 409);
    x.play(0);
    Check.due("P36 three", x.rest(0, 1, 0, 9, 0), 309);
    x.wine(0, 3);
    Check.due("P36 six", x.rest(0, 1, 0, 9, 0), 609);
    x = Check.told("court;person strength 99;person strength 99;person strength 99;tune;pains : if up > 2 then 0 - 1 else 1 end;");
    rests("all others gone", x, 4, 0);
    x = Check.told("court;person strength 99;person strength 99;tune;pains : if minute < 2 then 0 - 1 else 1 end;");
    rests("two minutes are paid", x, 5, 202);
    x.play(0);
    rests("one minute is paid yet", x, 5, 101);
  }

  /** Terms, WAITING: what its PLACE is WORTH (without an OFFICE: 0). */
  private static void worths() {
    StandRank x = Check.told("court;person strength 99;person strength 99;tune;pains : 3;office 4;");
    rests("one office: 4", x, 1, 1, 100);
    x = Check.told("court;person strength 99;person strength 99;tune;pains : 5;office 4;");
    rests("one office: 4 for 5", x, 1, 0);
    x = Check.told("court;person strength 99;person strength 99;tune;pains : 0 - 99;office 99;");
    rests("paid most", x, 20, 2020);
  }

  /** Calls that ask change nothing. */
  private static void asksOnly() {
    long found = Twin.busy().rests(0, 1, 0, 5);
    Twin.leaves("P35 asks", x -> x.rests(0, 1, 0, 5), found);
    Twin.leaves("P36 asks", x -> x.rest(0, 1, 0, 5, 0), Twin.busy().rest(0, 1, 0, 5, 0));
    Twin.leaves("P36 asks for one too many", x -> x.rest(0, 1, 0, 5, (int) found), -1);
  }
}
