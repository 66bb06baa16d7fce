/** Promises 18 to 22: stands, place, breakfast, worth, bestSit. */
public final class NightsTest {
  /** A minute of tune 0 tires by 1, one of tune 1 by 2, and pains by the minute. */
  private static final String THREE = "court;person strength 4;person strength 1;person strength 2;tune;tune;"
    + "tires : 1 + tune;pains : minute + 1;office 20;office 9;office 1;";

  public static void main(String[] args) {
    codes();
    nights();
    worths();
    bestSits();
    nothingChanges();
    Check.end();
  }

  private static void codes() {
    StandRank x = new StandRank();
    Check.due("20 missing", x.breakfast(0), -6);
    Check.due("18 nobody, ahead of missing", x.stands(0, 0), -2);
    x = Check.told(THREE);
    x.sit(2);
    Check.due("18 tray", x.stands(-1, 0), -2);
    Check.due("18 tray", x.stands(4, 0), -2);
    Check.due("18 person", x.stands(0, 3), -2);
    Check.due("18 person", x.stands(0, -1), -2);
    Check.due("18 missing, ahead of sitting", x.stands(0, 2), -6);
    Check.due("19 tray", x.place(4, 0), -2);
    Check.due("19 person", x.place(0, 3), -2);
    Check.due("19 missing", x.place(0, 0), -6);
    Check.due("20 tray", x.breakfast(4), -2);
    Check.due("20 tray", x.breakfast(-1), -2);
    Check.due("21 tray", x.worth(4, 0), -99000002);
    Check.due("21 person", x.worth(0, 3), -99000002);
    Check.due("21 missing", x.worth(0, 0), -99000006);
    Check.due("22 tray", x.bestSit(-1, 0), -99000002);
    Check.due("22 person", x.bestSit(0, -1), -99000002);
    Check.due("22 missing", x.bestSit(0, 2), -99000006);
    long[] many = new long[31];
    many[30] = 7;
    Check.tray(x, 0, many);
    Check.due("18 too many, ahead of no tune", x.stands(0, 0), -4);
    Check.due("19 too many", x.place(0, 0), -4);
    Check.due("20 too many", x.breakfast(0), -4);
    Check.due("21 too many", x.worth(0, 0), -99000004);
    Check.due("22 too many", x.bestSit(0, 2), -99000004);
    for (long no : new long[] {2, -1, 1L << 32, Long.MIN_VALUE}) {
      Check.tray(x, 0, 0, no);
      Check.due("18 no tune, ahead of sitting", x.stands(0, 2), -3);
      Check.due("19 no tune", x.place(0, 0), -3);
      Check.due("20 no tune", x.breakfast(0), -3);
      Check.due("21 no tune", x.worth(0, 0), -99000003);
      Check.due("22 no tune", x.bestSit(0, 2), -99000003);
    }
    Check.tray(x, 0, 0, 1);
    Check.due("18 it sits", x.stands(0, 2), -5);
    Check.due("22 it sits", x.bestSit(0, 2), -99000005);
    Check.due("19 of one that sits", x.place(0, 2), 2);
    Check.due("21 of one that sits", x.worth(0, 2), 1);
  }

  private static void nights() {
    StandRank x = Check.told(THREE);
    Check.tray(x, 0, new long[30]);
    Check.due("18 thirty", x.stands(0, 0), 4);
    Check.tray(x, 0);
    Check.due("18 none", x.stands(0, 0), 0);
    Check.due("19 none", x.place(0, 2), 2);
    Check.due("20 none", x.breakfast(0), 7);
    Check.tray(x, 0, 1, 0, 1);
    // 4 2 1 sits; 1 sits; 2 0 sits
    Check.due("18 of 0", x.stands(0, 0), 2);
    Check.due("18 of 1", x.stands(0, 1), 0);
    Check.due("18 of 2", x.stands(0, 2), 1);
    Check.due("19 of 0", x.place(0, 0), 0);
    Check.due("19 of 1", x.place(0, 1), 2);
    Check.due("19 of 2", x.place(0, 2), 1);
    Check.due("20 nobody", x.breakfast(0), 0);
    Check.tray(x, 0, 1, 0);
    Check.due("18 all", x.stands(0, 0), 2);
    Check.due("20 who stands", x.breakfast(0), 1);
    x.play(1);
    Check.tray(x, 0, 0);
    Check.due("18 from now on", x.stands(0, 0), 1);
    Check.due("18 from now on", x.stands(0, 2), 0);
    Check.due("19 sat ahead of this", x.place(0, 1), 2);
    x = Check.told("court;person strength 1;person strength 1;person strength 1;tune;tires : 2 - who;");
    Check.tray(x, 1, 0);
    Check.due("19 stands", x.place(1, 1), 0);
    Check.due("19 stands", x.place(1, 2), 1);
    Check.due("19 sat", x.place(1, 0), 2);
  }

  private static void worths() {
    StandRank x = Check.told(THREE);
    Check.tray(x, 0, 1, 0, 1);
    Check.due("21 of 0", x.worth(0, 0), 20 - 6);
    Check.due("21 of 1", x.worth(0, 1), 1 - 1);
    Check.due("21 of 2", x.worth(0, 2), 9 - 3);
    x.play(0);
    Check.tray(x, 0, 1);
    // 3 sits of 4 1 2: 3 0 1, then 1 sits -1 sits; place of 1 is 1, of 2 is 2
    Check.due("21 all its pain", x.worth(0, 0), 20 - 3);
    Check.due("21 all its pain", x.worth(0, 1), 9 - 3);
    Check.due("21 all its pain", x.worth(0, 2), 1 - 3);
    x.evening();
    x.sit(1);
    Check.tray(x, 0, 0, 0, 0);
    Check.due("21 no pain for one that sits", x.worth(0, 1), 1);
    x = Check.told("court;person strength 9;person strength 9;office 3;tune;pains : 0 - 50;");
    Check.tray(x, 0, 0, 0);
    Check.due("21 no office", x.worth(0, 1), 100);
  }

  private static void bestSits() {
    StandRank x = Check.told("court;person strength 5 mark 1;person strength 3;person strength 4 mark 2;tune;tune odds 2;"
      + "office 10;office 4;tires : if tune = 0 then 2 - beside else 1 + mark end;");
    Check.tray(x, 0, 1, 1, 1, 1);
    // 1 sits in minute 4, the others in 3 and in 2: it stands best just till they sat
    Check.due("22 till the others sat", x.bestSit(0, 1), 3);
    Check.due("22 at once", x.bestSit(0, 2), 0);
    x = Check.told("court;person strength 9;person strength 9;tune;tires : 0;pains : 0 - 2;office 5;office 5;");
    Check.tray(x, 0, 0, 0, 0);
    Check.due("22 all", x.bestSit(0, 0), 3);
    x = Check.told("court;person strength 9;person strength 9;tune;tires : 0;pains : 0;office 5;office 3;");
    Check.tray(x, 0, 0, 0);
    // behind all of them it sits down, too: behind the one that stands
    Check.due("22 the least of like ones", x.bestSit(0, 0), 0);
    x = Check.told("court;person strength 2;person strength 1;tune;pains : 0;office 5;office 3;");
    Check.tray(x, 0, 0, 0, 0, 0);
    // behind one minute it would sit ahead of the other one; behind two it is later
    Check.due("22 just behind the other one", x.bestSit(0, 0), 2);
    Check.tray(x, 0);
    Check.due("22 no minute", x.bestSit(0, 0), 0);
    x = Check.told("court;person strength 0;person strength 1;tune;pains : 0 - 1;office 5;office 3;");
    Check.tray(x, 0, 0, 0, 0);
    // its pain is good, and it sits in the first minute in any case
    Check.due("22 it sits by itself", x.bestSit(0, 0), 1);
    x = Check.told("court;person strength 3;person strength 3;person strength 1;tune;tires : beside;pains : 1;office 50;office 20;");
    Check.tray(x, 0, 0, 0, 0);
    // the one in the middle is tired by both; when it sits down, nobody is tired
    Check.due("22 of the last one", x.bestSit(0, 2), 0);
    Check.due("22 of the first one", x.bestSit(0, 0), 2);
  }

  private static void nothingChanges() {
    StandRank x = Check.told(THREE);
    x.play(0);
    Check.tray(x, 0, 1, 1);
    x.stands(0, 0);
    x.place(0, 0);
    x.breakfast(0);
    x.worth(0, 0);
    x.bestSit(0, 0);
    Check.due("18 to 22: minutes", x.count(5), 1);
    Check.due("18 to 22: who stands", x.count(3), 7);
    Check.due("18 to 22: undone", x.count(8), 1);
    Check.due("18 to 22: pain", x.person(0, 5), 1);
    Check.due("18 to 22: strength", x.person(0, 0), 3);
  }
}
