/** Promises 9 to 17: play, sit, change, wine, evening, undo, judge, perform, season. */
public final class DeedsTest {
  private static final String THREE =
    "court;person strength 2;person strength 0;person strength 1;tune;tune;tires : 1 + tune;pains : beside;office 9;office 4;";

  public static void main(String[] args) {
    plays();
    allAtOnce();
    sitsDown();
    changes();
    wines();
    evenings();
    undone();
    judged();
    performed();
    seasons();
    Check.end();
  }

  private static void plays() {
    StandRank x = Check.told(THREE);
    Check.due("9 none", x.play(-1), -11);
    Check.due("9 none", x.play(2), -11);
    Check.due("9 refused: nothing to undo", x.count(8), 0);
    Check.due("9 one sat", x.play(0), 1);
    Check.due("9 who stands", x.count(3), 5);
    Check.due("9 strength of one that sat", x.person(1, 0), 0);
    Check.due("9 strength", x.person(0, 0), 1);
    Check.due("9 pain as all was ahead", x.person(1, 5), 2);
    Check.due("9 two sat", x.play(1), 2);
    Check.due("9 pain beside nobody", x.person(0, 5), 1);
    Check.due("9 nobody stands", x.play(1), 0);
    Check.due("9 but it is played", x.count(5), 3);
    Check.due("9 no pain when one sits", x.person(0, 5), 1);
    x = Check.told("court;tune;");
    Check.due("9 without people", x.play(0), 0);
    Check.due("9 it is played", x.count(5), 1);
    x = Check.told("court;person strength 9;tune;pains : 999;");
    x.play(0);
    Check.due("9 pain at most", x.person(0, 5), 99);
    x = Check.told("court;person strength 9;tune;pains : 0 - 999;");
    x.play(0);
    Check.due("9 pain at least", x.person(0, 5), -99);
    x = Check.told("court;person strength 1;tune;");
    x.play(0);
    Check.due("9 0 is not below 0", x.person(0, 2), 1);
    Check.due("9 pain without a law", x.person(0, 5), 1);
    Check.due("9 below 0", x.play(0), 1);
    Check.due("9 pain of the minute in which it sat", x.person(0, 5), 2);
  }

  /** Each law looks at all as it was ahead of the minute. */
  private static void allAtOnce() {
    StandRank x = Check.told("court;person strength 0;person strength 5;person strength 9;tune;tires : 1 + beside;pains : strength * 10 + up;");
    Check.due("9 one sat", x.play(0), 1);
    Check.due("9 strength", x.person(1, 0), 2);
    Check.due("9 strength", x.person(2, 0), 7);
    Check.due("9 pain by the strength ahead", x.person(1, 5), 53);
    Check.due("9 pain by who stood ahead", x.person(0, 5), 3);
    x.play(0);
    Check.due("9 strength", x.person(1, 0), 0);
    Check.due("9 pain", x.person(1, 5), 53 + 22);
  }

  private static void sitsDown() {
    StandRank x = Check.told(THREE);
    Check.due("10 none", x.sit(3), -11);
    Check.due("10 none", x.sit(-1), -11);
    Check.due("10 the last", x.sit(0), 2);
    Check.due("10 it sits", x.sit(0), -12);
    Check.due("10 strength stays", x.person(0, 0), 2);
    Check.due("10 later is ahead", x.sit(2), 1);
    Check.due("10 later is ahead", x.sit(1), 0);
    Check.due("10 refused: as many to undo", x.count(8), 3);
    x.evening();
    x.play(0);
    Check.due("10 behind the minute in which another sat", x.sit(2), 1);
    Check.due("10 minute", x.person(2, 6), 1);
    Check.due("10 ahead of that one", x.person(1, 4), 2);
  }

  private static void changes() {
    StandRank x = Check.told(THREE);
    Check.due("11 none", x.change(0, 3), -11);
    Check.due("11 none", x.change(3, 0), -11);
    Check.due("11 none", x.change(-1, 0), -11);
    Check.due("11 both one", x.change(1, 1), -11);
    Check.due("11 its spot", x.change(0, 2), 2);
    Check.due("11 the other's", x.person(2, 3), 0);
    Check.due("11 the third stays", x.spot(1), 1);
    x.sit(1);
    Check.due("11 one that sits", x.change(1, 2), 0);
    Check.due("11 spots", x.spot(1), 2);
    Check.due("11 its pain is by its new spot", x.play(0), 0);
    Check.due("11 pain", x.person(0, 5), 1);
    Check.due("11 pain", x.person(2, 5), 1);
  }

  private static void wines() {
    StandRank x = Check.told("court;person strength 95;person strength 1;");
    Check.due("12 none", x.wine(2, 1), -11);
    Check.due("12 none", x.wine(-1, 1), -11);
    Check.due("12 too little", x.wine(0, 0), -11);
    Check.due("12 too much", x.wine(0, 10), -11);
    Check.due("12 wine", x.wine(1, 9), 10);
    Check.due("12 99 at most", x.wine(0, 9), 99);
    x.sit(1);
    Check.due("12 it sits", x.wine(1, 1), -12);
    Check.due("12 told first", x.wine(1, 10), -11);
    Check.due("12 undo", x.undo(2), 1);
    Check.due("12 strength", x.person(0, 0), 95);
  }

  private static void evenings() {
    StandRank x = Check.told(THREE);
    x.change(0, 1);
    x.play(0);
    x.play(0);
    x.wine(0, 3);
    x.sit(0);
    Check.due("13 minutes", x.evening(), 2);
    Check.due("13 all stand", x.count(3), 7);
    Check.due("13 strengths", x.count(6), 3);
    Check.due("13 pain", x.person(0, 5), 0);
    Check.due("13 no minute", x.count(5), 0);
    Check.due("13 spots stay", x.spot(0), 1);
    Check.due("13 places", x.person(2, 4), 2);
    Check.due("13 it stands", x.person(1, 6), -1);
    Check.due("13 again", x.evening(), 0);
    Check.due("13 both can be undone", x.count(8), 7);
  }

  private static void undone() {
    StandRank x = Check.told(THREE);
    Check.due("14 none", x.undo(1), -3);
    x.play(0);
    x.sit(0);
    x.change(0, 2);
    Check.due("14 n", x.undo(0), -3);
    Check.due("14 n", x.undo(-1), -3);
    Check.due("14 more than can be", x.undo(4), -3);
    Check.due("14 refused: nothing changed", x.spot(0), 2);
    Check.due("14 one", x.undo(1), 2);
    Check.due("14 spots", x.spot(0), 0);
    Check.due("14 it sits still", x.person(0, 2), 0);
    Check.due("14 two", x.undo(2), 0);
    Check.due("14 minutes", x.count(5), 0);
    Check.due("14 all stand", x.count(3), 7);
    Check.due("14 pain", x.person(1, 5), 0);
    Check.due("14 strength", x.person(0, 0), 2);
    for (int k = 0; k < 12; k++) x.change(0, 1);
    Check.due("14 ten at most", x.count(8), 10);
    x.change(1, 2);
    Check.due("14 eleven", x.undo(11), -3);
    Check.due("14 the latest first", x.undo(1), 9);
    Check.due("14 spots", x.spot(2), 2);
    Check.due("14 the rest", x.undo(9), 0);
    // of 13 changes 3 are left: 0 and 1 have each other's spot
    Check.due("14 eldest are forgotten", x.spot(0), 1);
    x = Check.told("court;person strength 3;tune;");
    x.play(0);
    x.evening();
    Check.due("14 an evening", x.undo(1), 1);
    Check.due("14 strength", x.person(0, 0), 2);
    Check.due("14 minutes", x.count(5), 1);
    Check.due("14 pain", x.person(0, 5), 1);
    x.sit(0);
    x.undo(1);
    x.play(0);
    Check.due("14 goes on from there", x.person(0, 0), 1);
    Check.due("14 the tape stays", Check.feed(x, "court;"), 20);
    x.undo(1);
    Check.due("14 the tape stays", x.count(9), 20);
    Check.tray(x, 0, 5);
    x.undo(1);
    Check.due("14 trays stay", x.write(0, 0, 6), 6);
  }

  private static void judged() {
    StandRank x = Check.told(THREE);
    Check.due("15 tray", x.judge(4, 0), -2);
    Check.due("15 tray", x.judge(-1, 0), -2);
    Check.due("15 what", x.judge(0, 4), -2);
    Check.due("15 what", x.judge(0, -1), -2);
    Check.due("15 missing", x.judge(0, 0), -6);
    Check.tray(x, 0);
    judge(x, "15 no deeds", -1, 0, 7, 0);
    Check.tray(x, 0, 0, 10, 121, 203, -1, 12);
    judge(x, "15 the 5th", 4 - 1, 2, 4, 2);
    Check.tray(x, 0, 0, 121, 223, -1, 12, 229);
    judge(x, "15 the last", 5, 2, 3, 0);
    Check.tray(x, 0, 10, 11);
    judge(x, "15 all can be", -1, 0, 4, 2);
    long[] others = {-2, 2, 9, 13, 19, 20, 99, 100, 111, 103, 130, 199, 200, 210, 231, 299, 300, 1000000000000L, Long.MIN_VALUE, 1L << 32};
    for (long v : others) {
      Check.tray(x, 0, 1, v, 0);
      judge(x, "15 deed " + v, 1, 1, 1, 0);
    }
    Check.due("15 as if done", x.count(5), 0);
    Check.due("15 as if done", x.count(8), 0);
    x = new StandRank();
    Check.tray(x, 3, -1, -1, 0);
    judge(x, 3, "15 no people", 2, 1, 0, -1);
  }

  private static void judge(StandRank x, String what, int... want) {
    judge(x, 0, what, want);
  }

  private static void judge(StandRank x, int tray, String what, int... want) {
    for (int k = 0; k < 4; k++) Check.due(what + ", " + k, x.judge(tray, k), want[k]);
  }

  private static void performed() {
    StandRank x = Check.told(THREE);
    Check.due("16 tray", x.perform(4), -2);
    Check.due("16 tray", x.perform(-1), -2);
    Check.due("16 missing", x.perform(2), -6);
    Check.tray(x, 2);
    Check.due("16 no deeds", x.perform(2), 0);
    Check.tray(x, 2, 11, 11);
    Check.due("16 till one can't be", x.perform(2), 1);
    Check.due("16 none can be", x.perform(2), 0);
    Check.due("16 calls that did some", x.count(8), 1);
    Check.tray(x, 2, 0, 0, 120, 209);
    Check.due("16 all", x.perform(2), 4);
    Check.due("16 wine", x.person(0, 0), 9);
    Check.due("16 spots", x.spot(0), 2);
    Check.due("16 as a whole", x.undo(1), 1);
    Check.due("16 undone", x.count(3), 5);
    Check.due("16 undone", x.spot(0), 0);
    Check.tray(x, 2, -1);
    Check.due("16 an evening", x.perform(2), 1);
    Check.due("16 all stand", x.count(3), 7);
  }

  private static void seasons() {
    StandRank x = Check.told(THREE);
    Check.due("17 times", x.season(1, 0), -3);
    Check.due("17 times", x.season(1, 41), -3);
    Check.due("17 times", x.season(1, -1), -3);
    Check.due("17 refused", x.count(8), 0);
    for (int seed : new int[] {0, 1, 7, -1, 123456789, Integer.MIN_VALUE}) {
      StandRank y = Check.told(THREE);
      int[] draws = {seed};
      int done = 0;
      for (int k = 0; k < 40; k++) {
        int sort = draw(draws, 6);
        int code;
        if (sort < 3) code = y.play(draw(draws, 4));
        else if (sort == 3) code = y.sit(draw(draws, 6));
        else if (sort == 4) code = y.change(draw(draws, 6), draw(draws, 6));
        else code = y.evening();
        if (code >= 0) done++;
      }
      x.evening();
      x = Check.told(THREE);
      Check.due("17 season by " + seed, x.season(seed, 40), done);
      for (int p = 0; p < 3; p++) for (int what = 0; what < 7; what++) Check.due("17 then", x.person(p, what), y.person(p, what));
      Check.due("17 minutes", x.count(5), y.count(5));
      Check.due("17 as a whole", x.undo(1), 0);
      Check.due("17 undone", x.count(6), 3);
    }
    // by seed 1 the first draw is 1103527590 >>> 16 = 16838, a minute (2), then 2524885223 >>> 16 = 38526, tune 2
    x = Check.told(THREE);
    Check.due("17 no tune 2", x.season(1, 1), 0);
    Check.due("17 did none", x.count(8), 0);
    x = Check.told("court;person strength 3;tune;tune;tune;");
    Check.due("17 tune 2", x.season(1, 1), 1);
    Check.due("17 it was played", x.count(5), 1);
    Check.due("17 it can be undone", x.count(8), 1);
  }

  private static int draw(int[] x, int by) {
    x[0] = (int) (1103515245L * x[0] + 12345L);
    return (int) ((x[0] & 0xffffffffL) / 65536 % by);
  }
}
