/** Promises 28 to 31: row, rowSpot, leans, chairs. */
public final class RowsTest {
  public static void main(String[] args) {
    codes();
    rows();
    askedAnew();
    leaning();
    chairs();
    Check.end();
  }

  private static void codes() {
    StandRank x = Check.told("court;person strength 4;person strength 1;person strength 2;tune;");
    x.sit(2);
    Check.due("28 tray", x.row(4, 0), -2);
    Check.due("28 tray", x.row(-1, 0), -2);
    Check.due("28 person", x.row(0, 3), -2);
    Check.due("28 missing", x.row(0, 2), -6);
    Check.due("29 tray", x.rowSpot(4, 0, 9), -2);
    Check.due("29 person", x.rowSpot(0, -1, 9), -2);
    Check.due("29 missing", x.rowSpot(0, 0, 9), -6);
    Check.due("30 tray", x.leans(4, 0), -2);
    Check.due("30 person", x.leans(0, 3), -2);
    Check.due("30 missing", x.leans(0, 0), -6);
    Check.due("31 tray", x.chairs(4, 0, 0), -2);
    Check.due("31 person", x.chairs(0, 3, 0), -2);
    Check.due("31 what", x.chairs(0, 0, 2), -2);
    Check.due("31 what", x.chairs(0, 0, -1), -2);
    Check.due("31 missing", x.chairs(0, 0, 0), -6);
    long[] many = new long[31];
    many[0] = 1;
    Check.tray(x, 0, many);
    Check.due("28 too many", x.row(0, 0), -4);
    Check.due("29 too many", x.rowSpot(0, 0, 9), -4);
    Check.due("30 too many", x.leans(0, 0), -4);
    Check.due("31 too many", x.chairs(0, 0, 1), -4);
    Check.tray(x, 0, 0, 1);
    Check.due("28 no tune", x.row(0, 2), -3);
    Check.due("29 no tune", x.rowSpot(0, 2, 9), -3);
    Check.due("30 no tune", x.leans(0, 2), -3);
    Check.due("31 no tune", x.chairs(0, 2, 1), -3);
    Check.tray(x, 0, 0, 0);
    Check.due("28 it sits", x.row(0, 2), -5);
    Check.due("29 it sits", x.rowSpot(0, 2, 9), -5);
    Check.due("30 it sits", x.leans(0, 2), -5);
    Check.due("31 it sits", x.chairs(0, 2, 1), -5);
    Check.due("29 no spot", x.rowSpot(0, 0, 3), -7);
    Check.due("29 no spot", x.rowSpot(0, 0, -1), -7);
  }

  private static void row(StandRank x, int tray, int p, int minutes, int... people) {
    Check.due("28 row(" + tray + ", " + p + ")", x.row(tray, p), minutes);
    for (int k = 0; k < people.length; k++) Check.due("29 rowSpot(" + tray + ", " + p + ", " + k + ")", x.rowSpot(tray, p, k), people[k]);
  }

  private static void rows() {
    // beside one it is held up: tired by 2 less
    StandRank x = Check.told("court;person strength 4;person strength 9;person strength 9;person strength 9;tune;tires : 4 - 2 * beside;");
    Check.tray(x, 0, 0, 0, 0, 0);
    row(x, 0, 0, 4, 1, 0, 2, 3);
    row(x, 0, 1, 4, 0, 1, 2, 3);
    Check.tray(x, 1);
    row(x, 1, 3, 0, 0, 1, 2, 3);
    x.change(0, 1);
    row(x, 1, 3, 0, 0, 1, 2, 3);
    Check.due("28 nothing changes", x.spot(0), 1);
    x.sit(1);
    // of those who stand both must be beside 0
    row(x, 0, 0, 4, 1, 2, 0, 3);
    // crowds tire: best at an end beside one that sits, or beside one alone
    x = Check.told("court;person strength 9;person strength 5;person strength 5;person strength 5;tune;tires : beside * 3;");
    Check.tray(x, 0, 0, 0, 0, 0, 0, 0);
    // in the middle 1 sits in minute 1; at an end beside one in the middle that sits at once it stands all
    row(x, 0, 1, 6, 0, 2, 3, 1);
    x = Check.told("court;person strength 3;person strength 3;tune;tires : 1;");
    Check.tray(x, 0, 0, 0, 0, 0, 0);
    row(x, 0, 1, 3, 0, 1);
    x.change(0, 1);
    row(x, 0, 1, 3, 0, 1);
    x = Check.told("court;person strength 1;person strength 2;tune;pains : beside;");
    Check.tray(x, 0, 0, 0, 0);
    row(x, 0, 1, 2, 0, 1);
    x = Check.told("court;person strength 3;tune;tires : beside + 1;");
    Check.tray(x, 0, 0, 0);
    row(x, 0, 0, 2, 0);
  }

  private static void askedAnew() {
    String text = "court;person strength 4;person strength 9;person strength 9;person strength 9;tune;"
      + "tires : if who = 0 then 5 - 2 * beside else 2 - beside end;";
    StandRank x = Check.told(text);
    Check.tray(x, 0, new long[6]);
    Check.due("29 not behind row()", x.rowSpot(0, 0, 0), 1);
    // the first of like ones, though it sits in each
    row(x, 0, 0, 4, 1, 0, 2, 3);
    row(x, 0, 1, 6, 0, 1, 2, 3);
    row(x, 0, 0, 4, 1, 0, 2, 3);
    x.numbers(0, 1, 2);
    row(x, 0, 0, 2, 1, 0, 2, 3);
    x = Check.told("court;person strength 9;person strength 0;tune;tune;tires : if who = 0 then 0 else tune end;");
    x.numbers(0, 1, 1);
    row(x, 0, 1, 1, 0, 1);
    Check.due("41 lists", x.lists(0, 0), 1);
    row(x, 0, 1, 0, 0, 1);
    // who sits stays beside, as it is in the row that is tried
    x = Check.told("court;person strength 4;person strength 9;person strength 9;tune;tires : 3 - beside;");
    x.sit(1);
    Check.tray(x, 0, new long[4]);
    row(x, 0, 0, 2, 0, 2, 1);
    row(x, 0, 2, 4, 0, 2, 1);
    x.change(0, 2);
    row(x, 0, 0, 2, 0, 2, 1);
    x.evening();
    row(x, 0, 0, 4, 1, 0, 2);
    Check.tell(x, text);
    Check.tray(x, 0, new long[6]);
    row(x, 0, 0, 4, 1, 0, 2, 3);
    x = Check.told("court;" + "person strength 9;".repeat(5) + "person strength 1;tune;tires : if who = 5 and beside < 2 then 1 else 0 end;");
    Check.tray(x, 0, 0, 0);
    row(x, 0, 5, 2, 0, 1, 2, 3, 5, 4);
  }

  private static void leaning() {
    StandRank x = Check.told("court;person strength 5;person strength 9;person strength 9;person strength 9;tune;tires : 2 - beside;");
    Check.tray(x, 0, 0, 0, 0, 0, 0);
    // 0 is tired by 1 a minute beside 1, by 2 without it
    Check.due("30 beside it", x.leans(0, 0), 2);
    x.wine(2, 9);
    Check.due("30 of the second one", Check.told("court;person strength 9;person strength 2;tune;tires : 2 - beside;").leans(0, 1), -6);
    StandRank y = Check.told("court;person strength 9;person strength 2;tune;tires : 2 - beside;");
    Check.tray(y, 0, 0, 0);
    Check.due("30 on the first one", y.leans(0, 1), 1);
    Check.tray(x, 0, 0, 0);
    Check.due("30 it stands all in any case", x.leans(0, 0), 0);
    Check.tray(x, 0, 0, 0, 0, 0, 0);
    x.sit(1);
    Check.due("30 who sits can't", x.leans(0, 0), 0);
    x = Check.told("court;person strength 5;person strength 9;person strength 9;tune;tires : 3 - up;");
    Check.tray(x, 0, 0, 0, 0, 0, 0);
    Check.due("30 each of them", x.leans(0, 0), 0);
    Check.tray(x, 0, 0, 0, 0, 0, 0, 0);
    Check.due("30 each of them", x.leans(0, 0), 6);
    x = Check.told("court;person strength 5;person strength 9;person strength 9;tune;tires : up;");
    Check.tray(x, 0, 0, 0, 0, 0);
    Check.due("30 more is not fewer", x.leans(0, 0), 0);
    Check.due("30 nothing changes", x.count(3), 7);
  }

  private static void chair(StandRank x, int tray, int p, int many, int whose) {
    Check.due("31 chairs(" + tray + ", " + p + ", 0)", x.chairs(tray, p, 0), many);
    Check.due("31 chairs(" + tray + ", " + p + ", 1)", x.chairs(tray, p, 1), whose);
  }

  private static void chairs() {
    StandRank x = Check.told("court;person strength 1;person strength 9;person strength 8;person strength 3;tune;");
    Check.tray(x, 0, new long[9]);
    chair(x, 0, 1, 0, 0);
    chair(x, 0, 2, 1, 2);
    chair(x, 0, 3, 2, 6);
    chair(x, 0, 0, 3, 14);
    Check.tray(x, 1, 0);
    // behind one minute all stand: those with lesser numbers must sit
    chair(x, 1, 3, 3, 7);
    chair(x, 1, 0, 0, 0);
    x.sit(1);
    chair(x, 0, 3, 1, 4);
    chair(x, 0, 2, 0, 0);
    Check.tray(x, 2);
    chair(x, 2, 3, 2, 5);
    // three tire 1 out, two don't: either of the others, the lesser set
    x = Check.told("court;person strength 5;person strength 1;person strength 5;tune;tires : if who = 1 then up - 2 else 3 - beside end;");
    Check.tray(x, 0, 0, 0, 0);
    chair(x, 0, 1, 1, 1);
    x = Check.told("court;person strength 9;person strength 9;tune;tires : if who = 1 then 99 else 0 end;");
    Check.tray(x, 0, 0);
    // 1 sits in the first minute, later than one that sits down now
    chair(x, 0, 1, 1, 1);
    x = Check.told("court;person strength 0;person strength 0;tune;tires : who;");
    Check.tray(x, 0, 0);
    chair(x, 0, 1, 1, 1);
    Check.due("31 nothing changes", x.count(3), 3);
    // in one minute the lesser number is ahead, but a chair is always later than none
    x = Check.told("court;person strength 0;person strength 0;tune;tires : 1;");
    Check.tray(x, 0, 0);
    chair(x, 0, 0, 0, 0);
    chair(x, 0, 1, 1, 1);
  }
}
