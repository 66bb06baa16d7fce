/** Promises 23 to 27: alone, aloneBy, ways, sits, sitsBy. */
public final class MusicTest {
  /** Tune t tires person t by nothing, the others by 2. */
  private static final String SPARED = "court;person strength 3;person strength 5;person strength 3;tune;tune;tune;"
    + "tires : if who = tune then 0 else 2 end;";

  public static void main(String[] args) {
    codes();
    alone();
    firstOfLikeOnes();
    ways();
    orders();
    satAlready();
    six();
    askedAnew();
    Check.end();
  }

  private static void codes() {
    StandRank x = Check.told(SPARED);
    x.sit(1);
    Check.due("23 none", x.alone(3), -2);
    Check.due("23 none", x.alone(-1), -2);
    Check.due("23 it sits", x.alone(1), -5);
    Check.due("24 none", x.aloneBy(3, -1), -2);
    Check.due("24 it sits", x.aloneBy(1, -1), -5);
    Check.due("24 below 0", x.aloneBy(0, -1), -3);
    Check.due("25 none", x.ways(3, 8), -2);
    Check.due("25 it sits", x.ways(1, 8), -5);
    Check.due("25 n", x.ways(0, 8), -3);
    Check.due("25 n", x.ways(0, -1), -3);
    Check.due("26 tray", x.sits(-1), -2);
    Check.due("26 tray", x.sits(4), -2);
    Check.due("26 missing", x.sits(0), -6);
    Check.due("27 tray", x.sitsBy(4, -1), -2);
    Check.due("27 missing", x.sitsBy(0, -1), -6);
    Check.tray(x, 0);
    Check.due("26 no numbers", x.sits(0), -4);
    Check.tray(x, 0, 0, 1, 2, 3, 4, 5, 6);
    Check.due("26 seven numbers", x.sits(0), -4);
    Check.due("27 seven numbers", x.sitsBy(0, -1), -4);
    Check.tray(x, 0, 0, 3);
    Check.due("26 nobody", x.sits(0), -3);
    Check.tray(x, 0, -1);
    Check.due("26 nobody", x.sits(0), -3);
    Check.tray(x, 0, 1L << 32);
    Check.due("26 nobody", x.sits(0), -3);
    Check.tray(x, 0, 0, 2, 0);
    Check.due("26 twice", x.sits(0), -3);
    Check.due("27 twice", x.sitsBy(0, 0), -3);
    Check.tray(x, 0, 1);
    Check.due("27 below 0", x.sitsBy(0, -1), -3);
    Check.due("27 not so many", x.sitsBy(0, 0), -1);
  }

  private static void music(StandRank x, int p, int... tunes) {
    Check.due("23 alone(" + p + ")", x.alone(p), tunes.length);
    for (int i = 0; i < tunes.length; i++) Check.due("24 aloneBy(" + p + ", " + i + ")", x.aloneBy(p, i), tunes[i]);
    Check.due("24 not so many", x.aloneBy(p, tunes.length), -1);
    Check.due("24 not so many", x.aloneBy(p, Integer.MAX_VALUE), -1);
  }

  private static void order(StandRank x, int tray, int... tunes) {
    Check.due("26 sits(" + tray + ")", x.sits(tray), tunes.length);
    for (int i = 0; i < tunes.length; i++) Check.due("27 sitsBy(" + tray + ", " + i + ")", x.sitsBy(tray, i), tunes[i]);
    Check.due("27 not so many", x.sitsBy(tray, tunes.length), -1);
  }

  private static void alone() {
    StandRank x = Check.told(SPARED);
    // 0 and 2 sit when they are tired twice
    music(x, 1, 1, 1);
    // 1 sits when it is tired three times; 0 and 2 may be tired once
    music(x, 0, 0, 0, 0);
    music(x, 2, 0, 2, 2);
    x.play(0);
    music(x, 0, 0, 0);
    music(x, 1, 1, 1);
    x.sit(0);
    x.sit(2);
    music(x, 1);
    x = Check.told("court;person strength 3;person strength 3;tune;");
    Check.due("23 none does", x.alone(0), -1);
    Check.due("24 none does", x.aloneBy(0, 0), -1);
    x = Check.told("court;person strength 3;person strength 3;");
    Check.due("23 no tunes", x.alone(0), -1);
    x = Check.told("court;person strength 3;");
    music(x, 0);
    x = Check.told("court;person strength 7;person strength 6;tune;");
    music(x, 0, 0, 0, 0, 0, 0, 0, 0);
    x = Check.told("court;person strength 8;person strength 7;tune;");
    Check.due("23 seven at most", x.alone(0), -1);
    Check.due("23 nothing changes", x.count(5), 0);
    x.play(0);
    Check.due("23 from now on", x.alone(0), 7);
    x.undo(1);
    Check.due("23 as it was", x.alone(0), -1);
  }

  private static void firstOfLikeOnes() {
    StandRank x = Check.told("court;person strength 5;person strength 4;tune;tune;tune;tune;"
      + "tires : if tune = 2 then 2 else 1 - who + tune * 0 + who end;");
    // three minutes by which both lose 5
    music(x, 0, 0, 2, 2);
    x = Check.told("court;person strength 9;person strength 4;tune;tune;tune;tires : if who = 0 then 0 else if tune = 1 then 3 else 2 end end;");
    music(x, 0, 0, 1);
    Check.due("25 in two minutes", x.ways(0, 2), 5);
  }

  private static void ways() {
    StandRank x = Check.told(SPARED);
    Check.due("25 of 0", x.ways(1, 0), 0);
    Check.due("25 of 1", x.ways(1, 1), 0);
    Check.due("25 of 2", x.ways(1, 2), 1);
    for (int p = 0; p < 3; p++) for (int n = 0; n <= 7; n++) Check.due("25 ways(" + p + ", " + n + ")", x.ways(p, n), counted(p, n));
    x = Check.told("court;person strength 9;tune;tune;tune;tune;tires : 0;");
    Check.due("25 all", x.ways(0, 7), 16384);
    Check.due("25 no minute", x.ways(0, 0), 1);
    x = Check.told("court;person strength 9;person strength 9;");
    Check.due("25 no tunes", x.ways(0, 3), 0);
    x.sit(1);
    Check.due("25 no tunes", x.ways(0, 3), 0);
    Check.due("25 no minute", x.ways(0, 0), 1);
  }

  /** SPARED: one sits when it was tired more than its strength by twos. */
  private static int counted(int p, int n) {
    int[] strength = {3, 5, 3};
    int all = 1;
    for (int k = 0; k < n; k++) all *= 3;
    int found = 0;
    for (int code = 0; code < all; code++) {
      int[] tired = new int[3];
      for (int k = 0, c = code; k < n; k++, c /= 3) for (int q = 0; q < 3; q++) if (c % 3 != q) tired[q] += 2;
      boolean alone = true;
      for (int q = 0; q < 3; q++) if ((tired[q] <= strength[q]) != (q == p)) alone = false;
      if (alone) found++;
    }
    return found;
  }

  private static void orders() {
    StandRank x = Check.told(SPARED);
    Check.tray(x, 0, 0, 2, 1);
    Check.due("26 three", x.sits(0), 4);
    Check.tray(x, 1, 0);
    order(x, 1, 1, 1);
    Check.tray(x, 1, 2, 0);
    order(x, 1, 0, 1, 1);
    Check.tray(x, 1, 0, 2);
    order(x, 1, 1, 2, 0);
    x = Check.told("court;person strength 1;person strength 1;person strength 2;tune;");
    Check.tray(x, 0, 0, 1);
    Check.due("26 in one minute", x.sits(0), -1);
    Check.due("27 in one minute", x.sitsBy(0, 0), -1);
    Check.tray(x, 0, 0, 2);
    order(x, 0, 0, 0, 0);
    Check.tray(x, 0, 2, 0);
    Check.due("26 the other way", x.sits(0), -1);
    x = Check.told("court;person strength 7;tune;");
    Check.tray(x, 0, 0);
    Check.due("26 seven at most", x.sits(0), -1);
    x.play(0);
    Check.due("26 seven", x.sits(0), 7);
  }

  private static void six() {
    StandRank x = Check.told("court;" + "person strength 0;".repeat(6) + "tune;tires : if minute < 5 - who then 0 else 1 end;");
    Check.tray(x, 0, 5, 4, 3, 2, 1, 0);
    order(x, 0, 0, 0, 0, 0, 0, 0);
    Check.tray(x, 1, 5, 4, 3, 2, 0, 1);
    Check.due("26 not so", x.sits(1), -1);
    music(x, 0, 0, 0, 0, 0, 0);
  }

  /** What was asked ahead of a call must not show in its answer. */
  private static void askedAnew() {
    Check.due("24 not behind alone()", Check.told(SPARED).aloneBy(2, 1), 2);
    StandRank x = Check.told(SPARED);
    Check.tray(x, 0, 2, 0);
    Check.due("27 not behind sits()", x.sitsBy(0, 1), 1);
    for (int k = 0; k < 2; k++) {
      music(x, 0, 0, 0, 0);
      order(x, 0, 0, 1, 1);
    }
    x.write(0, 0, 1);
    Check.due("26 behind write()", x.sits(0), 4);
    Check.due("23 behind sits()", x.alone(0), 3);
    x.numbers(0, 0, 1);
    Check.due("26 behind numbers()", x.sits(0), 2);
    x.image(0);
    x.play(0);
    Check.due("23 behind play()", x.alone(0), 2);
    x.restore(0);
    Check.due("23 behind restore()", x.alone(0), 3);
    Check.tell(x, "court;person strength 1;person strength 0;tune;");
    Check.due("23 behind court()", x.alone(0), 1);
    Check.tray(x, 0, 0);
    Check.due("26 of 0", x.sits(0), 2);
    x.evening();
    Check.due("41 lists", x.lists(0, 0), 1);
    Check.due("26 behind lists()", x.sits(0), 2);
    x = Check.told("court;person strength 9;person strength 1;person strength 0;tune;tune;tires : if who = 0 then 0 else tune end;");
    Check.tray(x, 0, 2);
    Check.due("26 of 2", x.sits(0), 1);
    Check.due("41 lists 1", x.lists(0, 0), 1);
    Check.due("26 of 1 now", x.sits(0), 2);
  }

  private static void satAlready() {
    StandRank x = Check.told("court;person strength 0;person strength 0;person strength 4;person strength 9;tune;");
    x.play(0);
    Check.tray(x, 0, 0, 1);
    Check.due("26 sat in one minute", x.sits(0), -1);
    Check.tray(x, 0, 0);
    order(x, 0);
    x.sit(3);
    Check.tray(x, 0, 1, 3);
    order(x, 0);
    Check.tray(x, 0, 3, 1);
    Check.due("26 as they sat", x.sits(0), -1);
    Check.tray(x, 0, 0, 3, 2);
    order(x, 0, 0, 0, 0, 0);
    x.evening();
    x.sit(1);
    x.sit(0);
    Check.tray(x, 0, 1, 0);
    order(x, 0);
    Check.tray(x, 0, 0, 1);
    Check.due("26 of one's own, apart", x.sits(0), -1);
    Check.tray(x, 0, 2, 0);
    Check.due("26 it would be later", x.sits(0), -1);
  }
}
