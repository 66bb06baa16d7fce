/** Terms, the laws and a MINUTE: what is told of whom, numbers that are kept between a least and a greatest. */
public final class LawBoundsTest {
  /** 1,000,000, from numbers of three digits. */
  private static final String MILLION = "( 999 + 1 ) * ( 999 + 1 )";

  public static void main(String[] args) {
    rowAtFirst();
    whoAndMark();
    strengthNow();
    tuneOfTheMinute();
    besides();
    ups();
    minutes();
    keptByPlus();
    keptByMinus();
    keptByTimes();
    keptEach();
    notOverflown();
    ifs();
    truths();
    joints();
    tiredAtLeastAndMost();
    belowZero();
    painAtLeastAndMost();
    allAtOnce();
    playedWithNobody();
    Check.end();
  }

  private static int tires(String sum) {
    return Check.told("court;person strength 40;tune;tires : " + sum + ";").tires(0, 0);
  }

  private static int pain(String sum) {
    StandRank x = Check.told("court;person strength 40;tune;pains : " + sum + ";");
    x.play(0);
    return x.person(0, 5);
  }

  /** What a sum tells, told by comparing it, as tires alone is cut to 0 to 99. */
  private static void tells(String label, String sum, int want) {
    String far = number(want);
    Check.due("Terms, " + label + ": " + sum + " is " + want, tires("if " + sum + " = " + far + " then 7 else 8 end"), 7);
    Check.due("Terms, " + label + ": " + sum + " is " + want + ", in pains", pain("if " + sum + " = " + far + " then 7 else 8 end"), 7);
    if (want < 1000000) Check.due("Terms, " + label + ": " + sum + " is not more", tires("if " + sum + " > " + far + " then 7 else 8 end"), 8);
    if (want > -1000000) Check.due("Terms, " + label + ": " + sum + " is not less", tires("if " + sum + " < " + far + " then 7 else 8 end"), 8);
  }

  /** A number of up to seven digits as a sum that is never kept back. */
  private static String number(int n) {
    if (n < 0) return "( 0 - " + number(-n) + " )";
    return "( " + n / 1000 / 2 + " * ( 999 + 1 ) + " + (n / 1000 - n / 1000 / 2) + " * ( 999 + 1 ) + " + n % 1000 + " )";
  }

  /** Terms: one on each SPOT, at first by their numbers, from 0 on. */
  private static void rowAtFirst() {
    StandRank x = Check.told("court;" + "person strength 5;".repeat(6));
    for (int p = 0; p < 6; p++) {
      Check.due("Terms, row: spot " + p, x.spot(p), p);
      Check.due("Terms, row: of person " + p, x.person(p, 3), p);
      Check.due("Terms, row: stands", x.person(p, 2), 1);
    }
  }

  /** Terms, who, mark: the PERSON's number, mark. */
  private static void whoAndMark() {
    StandRank x = Check.told("court;person strength 50;person strength 50 mark 9;person strength 50 mark 0;person strength 50 mark 1;"
      + "person strength 50 mark 8;person strength 50 mark 5;tune;tires : who * 10 + mark;pains : mark * 10 + who;");
    int[] mark = {0, 9, 0, 1, 8, 5};
    for (int p = 0; p < 6; p++) Check.due("Terms, who, mark in tires: " + p, x.tires(p, 0), 10 * p + mark[p]);
    x.change(0, 5);
    for (int p = 0; p < 6; p++) Check.due("Terms, who is no spot: " + p, x.tires(p, 0), 10 * p + mark[p]);
    x.play(0);
    for (int p = 0; p < 6; p++) Check.due("Terms, who, mark in pains: " + p, x.person(p, 5), 10 * mark[p] + p);
  }

  /** Terms, strength: the STRENGTH now. */
  private static void strengthNow() {
    StandRank x = Check.told("court;person strength 99;person strength 0;tune;tires : strength;pains : strength;");
    Check.due("Terms, strength 99", x.tires(0, 0), 99);
    Check.due("Terms, strength 0", x.tires(1, 0), 0);
    x.wine(1, 9);
    Check.due("Terms, strength behind wine", x.tires(1, 0), 9);
    Check.due("Terms, strength: nobody sits", x.play(0), 0);
    Check.due("Terms, strength in pains", x.person(0, 5), 99);
    Check.due("Terms, strength in pains", x.person(1, 5), 9);
    Check.due("Terms, strength behind a minute", x.tires(0, 0), 0);
    x.evening();
    Check.due("Terms, strength in the evening", x.tires(0, 0), 99);
  }

  /** Terms, tune: which is played. */
  private static void tuneOfTheMinute() {
    StandRank x = Check.told("court;person strength 99;tune odds 0;tune;tune;tune odds 9;tires : tune;pains : tune;");
    int strength = 99;
    int pain = 0;
    for (int t = 0; t < 4; t++) {
      Check.due("Terms, tune " + t, x.tires(0, t), t);
      x.play(t);
      strength -= t;
      pain += t;
      Check.due("Terms, tune " + t + " in a minute", x.person(0, 0), strength);
      Check.due("Terms, tune " + t + " in pains", x.person(0, 5), pain);
    }
  }

  /** Terms, beside: how many on the SPOTS next to its own STAND, 0 to 2. */
  private static void besides() {
    StandRank x = Check.told("court;person strength 50;tune;tires : beside;");
    Check.due("Terms, beside: one alone", x.tires(0, 0), 0);
    x = Check.told("court;person strength 50;person strength 50;tune;tires : beside;");
    Check.due("Terms, beside: of two", x.tires(0, 0), 1);
    Check.due("Terms, beside: of two", x.tires(1, 0), 1);
    x = Check.told("court;" + "person strength 50;".repeat(6) + "tune;tires : beside;pains : beside;");
    int[] all = {1, 2, 2, 2, 2, 1};
    for (int p = 0; p < 6; p++) Check.due("Terms, beside: of six, " + p, x.tires(p, 0), all[p]);
    x.play(0);
    for (int p = 0; p < 6; p++) Check.due("Terms, beside in pains: " + p, x.person(p, 5), all[p]);
    x.sit(1);
    int[] less = {0, 0, 1, 2, 2, 1};
    for (int p = 0; p < 6; p++) Check.due("Terms, beside one that sits: " + p, x.tires(p, 0), less[p]);
    x.change(0, 5);
    // 5 1 2 3 4 0: the spots count, not the numbers
    int[] moved = {1, 0, 1, 2, 2, 0};
    for (int p = 0; p < 6; p++) Check.due("Terms, beside by spots: " + p, x.tires(p, 0), moved[p]);
    x.change(1, 3);
    // 5 3 2 1 4 0
    int[] again = {1, 0, 1, 2, 1, 1};
    for (int p = 0; p < 6; p++) Check.due("Terms, beside: one that sits has changed, " + p, x.tires(p, 0), again[p]);
  }

  /** Terms, up: how many STAND. */
  private static void ups() {
    StandRank x = Check.told("court;" + "person strength 50;".repeat(6) + "tune;tires : up;pains : up;");
    int pain = 0;
    for (int n = 6; n >= 1; n--) {
      Check.due("Terms, up: " + n, x.tires(n - 1, 0), n);
      x.play(0);
      pain += n;
      Check.due("Terms, up in pains: " + n, x.person(n - 1, 5), pain);
      x.sit(n - 1);
    }
  }

  /** Terms, minute: how many MINUTES were played this evening (99 at most). */
  private static void minutes() {
    StandRank x = Check.told("court;person strength 99;tune;tires : minute;pains : minute;");
    int strength = 99;
    int pain = 0;
    for (int k = 0; k < 5; k++) {
      Check.due("Terms, minute " + k, x.tires(0, 0), k);
      x.play(0);
      strength -= k;
      pain += k;
      Check.due("Terms, minute " + k + " tires", x.person(0, 0), strength);
      Check.due("Terms, minute " + k + " pains", x.person(0, 5), pain);
    }
    x.sit(0);
    Check.due("Terms, minute: of one that sits", x.tires(0, 0), 0);
    x.evening();
    Check.due("Terms, minute: of this evening", x.tires(0, 0), 0);
    x = Check.told("court;person strength 0;tune;tires : if minute > 97 then minute - 97 else 0 end;pains : if minute < 97 then 0 else minute end;");
    Twin.row(x, 0, 1, new long[32]);
    for (int k = 0; k < 3; k++) x.perform(0);
    x.play(0);
    Check.due("Terms, minute 97", x.tires(0, 0), 0);
    Check.due("Terms, minute 97: played", x.count(5), 97);
    x.play(0);
    Check.due("Terms, minute 97 pains", x.person(0, 5), 97);
    for (int k = 98; k <= 102; k++) {
      Check.due("Terms, minute " + k + ": 99 at most", x.tires(0, 0), Math.min(k, 99) - 97);
      Check.due("Terms, minute " + k + ": played", x.count(5), k);
      x.wine(0, 9);
      int ahead = x.person(0, 5);
      x.play(0);
      Check.due("Terms, minute " + k + " pains: 99 at most", x.person(0, 5) - ahead, Math.min(k, 99));
    }
  }

  /** Terms: + is kept from -1,000,000 to 1,000,000. */
  private static void keptByPlus() {
    tells("+", MILLION + " - 1 + 0", 999999);
    tells("+", "999 * 999 + 999 + 999 + 0", 999999);
    tells("+", "999 * 999 + 999 + 999 + 1", 1000000);
    tells("+", "999 * 999 + 999 + 999 + 2", 1000000);
    tells("+", MILLION + " + 999", 1000000);
    tells("+ of less than 0", "0 - 999 * 999 + ( 0 - 999 ) + ( 0 - 999 )", -999999);
    tells("+ of less than 0", "0 - 999 * 999 + ( 0 - 999 ) + ( 0 - 999 - 1 )", -1000000);
    tells("+ of less than 0", "0 - 999 * 999 + ( 0 - 999 ) + ( 0 - 999 - 2 )", -1000000);
  }

  /** Terms: - is kept from -1,000,000 to 1,000,000. */
  private static void keptByMinus() {
    tells("-", "0 - 999 * 999 - 999 - 999", -999999);
    tells("-", "0 - 999 * 999 - 999 - 999 - 1", -1000000);
    tells("-", "0 - 999 * 999 - 999 - 999 - 2", -1000000);
    tells("-", "0 - " + MILLION + " - 999", -1000000);
    tells("- of less than 0", "999 * 999 - ( 0 - 999 ) - ( 0 - 999 )", 999999);
    tells("- of less than 0", "999 * 999 - ( 0 - 999 ) - ( 0 - 999 - 1 )", 1000000);
    tells("- of less than 0", "999 * 999 - ( 0 - 999 ) - ( 0 - 999 - 2 )", 1000000);
    tells("- is not below 0 only", "3 - 5", -2);
  }

  /** Terms: * is kept from -1,000,000 to 1,000,000. */
  private static void keptByTimes() {
    // 999,999 is 999 * 1001
    tells("*", "999 * ( 999 + 2 )", 999999);
    tells("*", MILLION, 1000000);
    tells("*", "( 999 + 2 ) * ( 999 + 1 )", 1000000);
    // 1,000,001 is 101 * 9901
    tells("*", "101 * ( 999 * 9 + 910 )", 1000000);
    tells("* of less than 0", "( 0 - 999 ) * ( 999 + 2 )", -999999);
    tells("* of less than 0", "( 0 - 999 - 1 ) * ( 999 + 1 )", -1000000);
    tells("* of less than 0", "101 * ( 0 - 999 * 9 - 910 )", -1000000);
    tells("* of two less than 0", "( 0 - 999 ) * ( 0 - 999 )", 998001);
    tells("* of two less than 0", "( 0 - 999 ) * ( 0 - 999 ) * 2", 1000000);
  }

  /** Terms: each + - * is kept, not the whole. */
  private static void keptEach() {
    tells("each, + then -", MILLION + " + 5 - 5", 999995);
    tells("each, - then +", "0 - " + MILLION + " - 5 + 5", -999995);
    tells("each, * then -", "999 * 999 * 2 - 999 * 999", 1999);
    tells("each, * then *", "999 * 999 * 2 * 0 + 3", 3);
    tells("each, within ( )", "( " + MILLION + " + 5 ) - 5", 999995);
    tells("each, * ahead of +", "2 + 3 * 4", 14);
    tells("each, * ahead of -", "20 - 3 * 4 - 2", 6);
    tells("each, from the first on", "20 - 3 - 4 + 5", 18);
  }

  /** Terms: kept, however far it would be. */
  private static void notOverflown() {
    tells("far", MILLION + " * ( " + MILLION + " )", 1000000);
    tells("far", "( 0 - 1 ) * ( " + MILLION + " ) * ( " + MILLION + " )", -1000000);
    tells("far", "999 * 999 * 999 * 999 * 999 * 999", 1000000);
    tells("far", "( 0 - 999 ) * 999 * 999 * 999", -1000000);
    tells("far", MILLION + " + " + MILLION, 1000000);
  }

  /** Terms: if tells the one SUM, if the TRUTH holds, else the other one. */
  private static void ifs() {
    Check.due("Terms, if holds", tires("if 1 = 1 then 3 else 4 end"), 3);
    Check.due("Terms, if doesn't hold", tires("if 1 = 2 then 3 else 4 end"), 4);
    Check.due("Terms, if in if", tires("if 1 = 2 then 3 else if 1 = 1 then 5 else 6 end end"), 5);
    Check.due("Terms, if in its truth", tires("if if 1 = 1 then 2 else 3 end = 2 then 5 else 6 end"), 5);
    Check.due("Terms, if as a factor", tires("2 * if 1 = 1 then 2 else 3 end * 3"), 12);
  }

  /** Terms, UNIT: = < > at equal, one less, one more. */
  private static void truths() {
    for (int a = 4; a <= 6; a++) {
      Check.due("Terms, " + a + " = 5", tires("if " + a + " = 5 then 1 else 2 end"), a == 5 ? 1 : 2);
      Check.due("Terms, " + a + " < 5", tires("if " + a + " < 5 then 1 else 2 end"), a < 5 ? 1 : 2);
      Check.due("Terms, " + a + " > 5", tires("if " + a + " > 5 then 1 else 2 end"), a > 5 ? 1 : 2);
      Check.due("Terms, not " + a + " < 5", tires("if not " + a + " < 5 then 1 else 2 end"), a < 5 ? 2 : 1);
    }
    Check.due("Terms, below 0", tires("if 0 - 1 < 0 then 1 else 2 end"), 1);
    Check.due("Terms, sums on both sides", tires("if 1 + 2 = 5 - 2 then 1 else 2 end"), 1);
  }

  /** Terms, TRUTH, BOTH: all that two and three can be. */
  private static void joints() {
    for (int bits = 0; bits < 8; bits++) {
      boolean a = (bits & 1) != 0;
      boolean b = (bits & 2) != 0;
      boolean c = (bits & 4) != 0;
      String x = a ? "1 = 1" : "1 = 2";
      String y = b ? "2 > 1" : "2 < 1";
      String z = c ? "not 1 = 2" : "not 1 = 1";
      truth(x + " and " + y + " and " + z, a && b && c);
      truth(x + " or " + y + " or " + z, a || b || c);
      truth(x + " and " + y + " or " + z, a && b || c);
      truth(x + " or " + y + " and " + z, a || b && c);
      truth("[ " + x + " or " + y + " ] and " + z, (a || b) && c);
      truth(x + " and [ " + y + " or " + z + " ]", a && (b || c));
      truth("not [ " + x + " or " + y + " ] and " + z, !(a || b) && c);
      truth("not " + x + " or " + y + " and " + z, !a || b && c);
      truth("not not " + x, a);
    }
  }

  private static void truth(String told, boolean holds) {
    Check.due("Terms, TRUTH: " + told, tires("if " + told + " then 1 else 2 end"), holds ? 1 : 2);
  }

  /** Terms: tires, 0 at least, 99 at most (without one: 1). */
  private static void tiredAtLeastAndMost() {
    int[] told = {-1000000, -2, -1, 0, 1, 2, 97, 98, 99, 100, 101, 1000000};
    for (int n : told) {
      int want = Math.max(0, Math.min(99, n));
      StandRank x = Check.told("court;person strength 99;person strength 5;tune;tires : " + number(n) + ";");
      Check.due("Terms, tires " + n, x.tires(0, 0), want);
      x.play(0);
      Check.due("Terms, tires " + n + " in a minute", x.person(0, 0), 99 - want);
      Check.due("Terms, tires " + n + ": stands", x.person(0, 2), 1);
      Check.due("Terms, tires " + n + " in a minute", x.person(1, 0), Math.max(0, 5 - want));
    }
    StandRank x = Check.told("court;person strength 99;tune;");
    Check.due("Terms, without tires", x.tires(0, 0), 1);
    x.play(0);
    Check.due("Terms, without tires", x.person(0, 0), 98);
  }

  /** Terms: whose STRENGTH would be below 0 SITS down (its STRENGTH is 0). */
  private static void belowZero() {
    for (int strength = 0; strength <= 7; strength++) {
      StandRank x = Check.told("court;person strength " + strength + ";tune;tires : 5;");
      int sat = strength < 5 ? 1 : 0;
      Check.due("Terms, below 0: of " + strength, x.play(0), sat);
      Check.due("Terms, below 0: of " + strength + " stands", x.person(0, 2), 1 - sat);
      Check.due("Terms, below 0: of " + strength + " then", x.person(0, 0), Math.max(0, strength - 5));
    }
    StandRank x = Check.told("court;person strength 98;person strength 99;tune;tires : 999;");
    Check.due("Terms, below 0: of 98", x.play(0), 1);
    Check.due("Terms, below 0: of 99", x.count(3), 2);
    x = Check.told("court;person strength 0;tune;tires : 0;");
    Check.due("Terms, below 0: 0 less 0", x.play(0), 0);
  }

  /** Terms: PAIN, -99 at least, 99 at most (without one: 1), more. */
  private static void painAtLeastAndMost() {
    int[] told = {-1000000, -101, -100, -99, -98, -1, 0, 1, 98, 99, 100, 101, 1000000};
    for (int n : told) {
      int want = Math.max(-99, Math.min(99, n));
      StandRank x = Check.told("court;person strength 99;person strength 0;tune;pains : " + number(n) + ";");
      x.play(0);
      Check.due("Terms, pains " + n, x.person(0, 5), want);
      Check.due("Terms, pains " + n + ": the minute in which it sat, too", x.person(1, 5), want);
      x.play(0);
      x.play(0);
      Check.due("Terms, pains " + n + ": more and more", x.person(0, 5), 3 * want);
      Check.due("Terms, pains " + n + ": not when it sat ahead", x.person(1, 5), want);
    }
    StandRank x = Check.told("court;person strength 99;person strength 5;tune;tires : 0;");
    x.sit(1);
    x.play(0);
    Check.due("Terms, without pains", x.person(0, 5), 1);
    Check.due("Terms, without pains: one that sits", x.person(1, 5), 0);
  }

  /** Terms: all at once, as all was ahead. */
  private static void allAtOnce() {
    StandRank x = Check.told("court;person strength 0;person strength 10;person strength 0;tune;tires : beside + up;pains : beside * 10 + up;");
    Check.due("Terms, at once: two sat", x.play(0), 2);
    Check.due("Terms, at once: tires by who stood ahead", x.person(1, 0), 10 - 2 - 3);
    Check.due("Terms, at once: pains by who stood ahead", x.person(1, 5), 23);
    Check.due("Terms, at once: pains by who stood ahead", x.person(2, 5), 13);
    x = Check.told("court;person strength 7;tune;tires : 3 + minute;pains : strength * 10 + minute;");
    x.play(0);
    Check.due("Terms, at once: minute ahead", x.person(0, 0), 4);
    Check.due("Terms, at once: strength ahead", x.person(0, 5), 70);
    x.play(0);
    Check.due("Terms, at once: minute ahead", x.person(0, 0), 0);
    Check.due("Terms, at once: strength ahead", x.person(0, 5), 70 + 41);
  }

  /** Terms: a MINUTE is played, whether somebody STANDS or not. */
  private static void playedWithNobody() {
    StandRank x = Check.told("court;person strength 1;person strength 3;tune;");
    x.sit(0);
    x.sit(1);
    for (int k = 1; k <= 3; k++) {
      Check.due("Terms, nobody stands: nobody sat down", x.play(0), 0);
      Check.due("Terms, nobody stands: it is played", x.count(5), k);
    }
    Check.due("Terms, nobody stands: no pain", x.person(1, 5), 0);
    Check.due("Terms, nobody stands: strength stays", x.person(1, 0), 3);
    Check.due("Terms, nobody stands: the minute in which it sat stays", x.person(1, 6), 0);
    Check.due("Terms, nobody stands: it can be undone", x.count(8), 5);
    x = Check.told("court;tune;");
    x.play(0);
    Check.due("Terms, no people: it is played", x.count(5), 1);
  }
}
