/** Promises 32 to 34 (rooms, bound, next) and the Term ROOMS; NightBoundsTest has the codes of a NIGHT. */
public final class StrengthBoundsTest {
  private static final int LOW = Integer.MIN_VALUE;
  private static final int HIGH = Integer.MAX_VALUE;

  public static void main(String[] args) {
    minuteCodes();
    minuteLengths();
    boundWhat();
    zeroToNinetyNine();
    sitsInWhich();
    allElseAsNow();
    none();
    nextGreatest();
    nextFirst();
    nextWould();
    nextNone();
    asksOnly();
    Check.end();
  }

  /** Promises 32 to 34: -3: the MINUTE (0 to as many as there are), behind -2, -6, -4 and ahead of -5. */
  private static void minuteCodes() {
    for (int minute : new int[] {LOW, -1, 4, 5, 30, HIGH}) {
      Twin.leaves("P32 minute " + minute + " of 3", x -> x.rooms(0, 0, minute), -3);
      Twin.leaves("P33 minute " + minute + " of 3, least", x -> x.bound(0, 0, minute, 0), -3);
      Twin.leaves("P33 minute " + minute + " of 3, greatest", x -> x.bound(0, 0, minute, 1), -3);
      Twin.leaves("P34 minute " + minute + " of 3", x -> x.next(0, 0, minute), -3);
      Twin.leaves("P32 minute " + minute + ", ahead of sitting", x -> x.rooms(0, 3, minute), -3);
      Twin.leaves("P33 minute " + minute + ", ahead of sitting", x -> x.bound(0, 3, minute, 0), -3);
      Twin.leaves("P34 minute " + minute + ", ahead of sitting", x -> x.next(0, 3, minute), -3);
      Twin.leaves("P32 missing, ahead of minute " + minute, x -> x.rooms(3, 0, minute), -6);
      Twin.leaves("P33 missing, ahead of minute " + minute, x -> x.bound(3, 0, minute, 0), -6);
      Twin.leaves("P34 missing, ahead of minute " + minute, x -> x.next(3, 0, minute), -6);
      Twin.leaves("P32 too many, ahead of minute " + minute, StrengthBoundsTest::tooMany, x -> x.rooms(0, 0, minute), -4);
      Twin.leaves("P33 too many, ahead of minute " + minute, StrengthBoundsTest::tooMany, x -> x.bound(0, 0, minute, 1), -4);
      Twin.leaves("P34 too many, ahead of minute " + minute, StrengthBoundsTest::tooMany, x -> x.next(0, 0, minute), -4);
      Twin.leaves("P32 nobody, ahead of minute " + minute, x -> x.rooms(0, 4, minute), -2);
      Twin.leaves("P34 nobody, ahead of minute " + minute, x -> x.next(0, 4, minute), -2);
    }
    for (int minute = 0; minute <= 3; minute++) {
      int asked = minute;
      Twin.leaves("P32 it sits, minute " + minute, x -> x.rooms(0, 3, asked), -5);
      Twin.leaves("P33 it sits, minute " + minute, x -> x.bound(0, 3, asked, 1), -5);
      Twin.leaves("P34 it sits, minute " + minute, x -> x.next(0, 3, asked), -5);
    }
  }

  private static StandRank tooMany() {
    StandRank x = Twin.busy();
    x.numbers(0, 1, 31);
    return x;
  }

  /** Promise 32: 0 to as many as there are, of 0 to 30. */
  private static void minuteLengths() {
    for (int n : new int[] {0, 1, 2, 29, 30}) {
      StandRank x = Check.told("court;person strength 50;tune;tires : 2;");
      x.numbers(0, 1, n);
      for (int minute = 0; minute <= n; minute++) {
        int least = minute == 0 ? 2 * n : 2 * minute - 2;
        int greatest = minute == 0 ? 99 : 2 * minute - 1;
        Check.due("P32 minute " + minute + " of " + n, x.rooms(0, 0, minute), greatest - least + 1);
        Check.due("P33 least, minute " + minute + " of " + n, x.bound(0, 0, minute, 0), least);
        Check.due("P33 greatest, minute " + minute + " of " + n, x.bound(0, 0, minute, 1), greatest);
        Check.due("P34 minute " + minute + " of " + n, x.next(0, 0, minute), 0);
      }
      for (int minute : new int[] {-1, n + 1}) Check.due("P32 minute " + minute + " of " + n, x.rooms(0, 0, minute), -3);
    }
  }

  /** Promise 33: -2: what, too, ahead of all others. */
  private static void boundWhat() {
    for (int what : new int[] {LOW, -1, 2, 3, HIGH}) {
      Twin.leaves("P33 what " + what, x -> x.bound(0, 0, 0, what), -2);
      Twin.leaves("P33 what " + what + ", ahead of missing", x -> x.bound(3, 0, 0, what), -2);
      Twin.leaves("P33 what " + what + ", ahead of no tune", x -> x.bound(1, 0, 0, what), -2);
      Twin.leaves("P33 what " + what + ", ahead of the minute", x -> x.bound(0, 0, 9, what), -2);
      Twin.leaves("P33 what " + what + ", ahead of sitting", x -> x.bound(0, 3, 0, what), -2);
      Twin.leaves("P33 what " + what + ", ahead of NONE", x -> x.bound(0, 0, 3, what), -2);
    }
  }

  private static void rooms(String label, StandRank x, int minute, int many, int least, int greatest) {
    Check.due("P32 " + label, x.rooms(0, 0, minute), many);
    Check.due("P33 " + label + ", least", x.bound(0, 0, minute, 0), least);
    Check.due("P33 " + label + ", greatest", x.bound(0, 0, minute, 1), greatest);
  }

  /** Terms, ROOMS: 0 to 99. */
  private static void zeroToNinetyNine() {
    StandRank x = Check.told("court;person strength 50;tune;tires : if strength = 0 then 1 else 0 end;");
    x.numbers(0, 1, 1);
    rooms("0 alone sits", x, 1, 1, 0, 0);
    rooms("1 to 99 don't", x, 0, 99, 1, 99);
    x = Check.told("court;person strength 50;tune;tires : 98;");
    x.numbers(0, 1, 1);
    rooms("0 to 97 sit", x, 1, 98, 0, 97);
    rooms("98, 99 don't", x, 0, 2, 98, 99);
    x = Check.told("court;person strength 50;tune;tires : 99;");
    x.numbers(0, 1, 1);
    rooms("0 to 98 sit", x, 1, 99, 0, 98);
    rooms("99 alone doesn't", x, 0, 1, 99, 99);
    x.numbers(0, 1, 2);
    rooms("99 sits in minute 2", x, 2, 1, 99, 99);
    x = Check.told("court;person strength 50;tune;tires : 0;");
    x.numbers(0, 1, 1);
    rooms("all", x, 0, 100, 0, 99);
    rooms("none", x, 1, 0, -1, -1);
    x.numbers(0, 1, 0);
    rooms("no minutes: all", x, 0, 100, 0, 99);
  }

  /** Terms, ROOMS: SITS down in a told MINUTE (1: the first one; 0: in none). */
  private static void sitsInWhich() {
    StandRank x = Check.told("court;person strength 50;tune;tune;tune;tires : 10 * tune;");
    Check.tray(x, 0, 1, 0, 2, 0);
    rooms("the first one", x, 1, 10, 0, 9);
    rooms("the second one: tired by 0", x, 2, 0, -1, -1);
    rooms("the third one", x, 3, 20, 10, 29);
    rooms("the last one: tired by 0", x, 4, 0, -1, -1);
    rooms("in none", x, 0, 70, 30, 99);
    // not all between the least and the greatest
    x = Check.told("court;person strength 50;tune;tires : if strength < 10 or strength > 90 and strength < 95 then 99 else 0 end;");
    x.numbers(0, 1, 1);
    rooms("two ranges", x, 1, 14, 0, 94);
    rooms("two ranges", x, 0, 86, 10, 99);
  }

  /** Terms, ROOMS: all else as now; the STRENGTH that it has now is nothing. */
  private static void allElseAsNow() {
    for (int strength : new int[] {0, 50, 99}) {
      StandRank x = Check.told("court;person strength " + strength + ";person strength 1;tune;tires : if who = 0 then 2 + beside else 1 end;");
      x.numbers(0, 1, 3);
      // beside 1 by 3 a minute, 1 sits in minute 2, alone by 2
      rooms("of " + strength + ", minute 1", x, 1, 3, 0, 2);
      rooms("of " + strength + ", minute 2", x, 2, 3, 3, 5);
      rooms("of " + strength + ", minute 3", x, 3, 2, 6, 7);
      x.sit(1);
      rooms("of " + strength + ", alone", x, 1, 2, 0, 1);
      Check.due("P32 nothing changes", x.person(0, 0), strength);
    }
    StandRank x = Check.told("court;person strength 9;tune;tires : minute;");
    x.numbers(0, 1, 2);
    rooms("from the first minute on", x, 2, 1, 0, 0);
    x.play(0);
    rooms("from the second minute on", x, 1, 1, 0, 0);
    rooms("from the second minute on", x, 2, 2, 1, 2);
  }

  /** Promise 33: NONE: there are none. */
  private static void none() {
    StandRank x = Check.told("court;person strength 9;tune;tires : 0;");
    x.numbers(0, 1, 3);
    for (int minute = 1; minute <= 3; minute++) {
      rooms("never, " + minute, x, minute, 0, -1, -1);
      Check.due("P34 never, " + minute, x.next(0, 0, minute), -1);
    }
    Check.due("P34 always", x.next(0, 0, 0), 0);
  }

  /** Promise 34: the lesser number of those by which it would SIT down, or wouldn't, is greatest. */
  private static void nextGreatest() {
    // of 0 to 99 tune t seats 99, 49, 50, 51
    StandRank x = Check.told("court;person strength 9;tune;tune;tune;tune;tires : if tune = 0 then 99 else 48 + tune end;");
    x.numbers(0, 1, 0);
    Check.due("P34 half", x.next(0, 0, 0), 2);
    // 14, 90, 85, 12 would
    x = Check.told("court;person strength 9;tune;tune;tune;tune;tires : if tune = 0 then 14 else if tune = 1 then 90 else if tune = 2 then 85 else 12 end end end;");
    x.numbers(0, 1, 0);
    Check.due("P34 85 would, 15 wouldn't: 15 is greatest", x.next(0, 0, 0), 2);
    x = Check.told("court;person strength 9;tune;tune;tune;tune;tires : if tune = 0 then 14 else if tune = 1 then 90 else if tune = 2 then 87 else 12 end end end;");
    x.numbers(0, 1, 0);
    Check.due("P34 14 would, 86 wouldn't: 14 is greatest", x.next(0, 0, 0), 0);
    // of these alone: 0 to 9 sit in minute 1
    x = Check.told("court;person strength 9;tune;tune;tune;tires : if tune = 0 then 10 else if tune = 1 then 50 else 3 end end;");
    x.numbers(0, 1, 1);
    Check.due("P34 of those of minute 1", x.next(0, 0, 1), 2);
    Check.due("P34 of those of none", x.next(0, 0, 0), 1);
  }

  /** Promise 34: the first. */
  private static void nextFirst() {
    StandRank x = Check.told("court;person strength 9;tune;tune;tune;tune;tires : if tune = 0 then 0 else if tune = 1 then 40 else 60 end end;");
    x.numbers(0, 1, 0);
    Check.due("P34 40 and 60 alike", x.next(0, 0, 0), 1);
    x = Check.told("court;person strength 9;tune;tune;tires : 5;");
    x.numbers(0, 1, 1);
    Check.due("P34 all would by both", x.next(0, 0, 1), 0);
    Check.due("P34 none would by both", x.next(0, 0, 0), 0);
    x = Check.told("court;person strength 9;tune;tires : 5;");
    x.numbers(0, 1, 1);
    Check.due("P34 the only tune", x.next(0, 0, 1), 0);
  }

  /** Promise 34: one MINUTE of it from now on. */
  private static void nextWould() {
    // behind the night's minute tune 1 would tire by 2, now it tires by 50
    StandRank x = Check.told("court;person strength 9;tune;tune;tires : if tune = 0 then 2 else if minute = 0 then 50 else 2 end end;");
    x.numbers(0, 1, 1);
    Check.due("P34 from now on", x.next(0, 0, 0), 1);
    x.play(0);
    Check.due("P34 from now on", x.next(0, 0, 0), 0);
    // what the strength is would tire it
    x = Check.told("court;person strength 9;tune;tune;tires : if tune = 0 then strength else if strength < 30 then 99 else 0 end end;");
    x.numbers(0, 1, 0);
    Check.due("P34 by each strength", x.next(0, 0, 0), 1);
  }

  /** Promise 34: NONE: there are no TUNES, none such. */
  private static void nextNone() {
    StandRank x = Check.told("court;person strength 9;");
    x.numbers(0, 1, 0);
    Check.due("P34 no tunes", x.next(0, 0, 0), -1);
    Check.due("P34 -3 ahead of NONE", x.next(0, 0, 1), -3);
    x = Check.told("court;person strength 9;tune;tires : 0;");
    x.numbers(0, 1, 1);
    Check.due("P34 none such", x.next(0, 0, 1), -1);
    Check.due("P34 -3 ahead of NONE", x.next(0, 0, 2), -3);
    Check.due("P34 -2 ahead of NONE", x.next(0, 1, 1), -2);
    x.sit(0);
    Check.due("P34 -5 ahead of NONE", x.next(0, 0, 1), -5);
  }

  /** Calls that ask change nothing. */
  private static void asksOnly() {
    // 0 has spot 2 beside 1; of tunes 0 1 0: tired by 1 2 1
    Twin.leaves("P32 asks", x -> x.rooms(0, 0, 2), 2);
    Twin.leaves("P33 asks", x -> x.bound(0, 0, 2, 0), 1);
    Twin.leaves("P33 asks", x -> x.bound(0, 0, 2, 1), 2);
    Twin.leaves("P34 asks", x -> x.next(0, 0, 2), 1);
  }
}
