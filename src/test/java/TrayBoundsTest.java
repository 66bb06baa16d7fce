/** Promises 39 to 44 (numbers, write, lists, image, restore, count) and the Terms TRAYS, IMAGES: each code, least and most. */
public final class TrayBoundsTest {
  private static final int LOW = Integer.MIN_VALUE;
  private static final int HIGH = Integer.MAX_VALUE;

  public static void main(String[] args) {
    numbersCodes();
    numbersSizes();
    numbersAnew();
    numbersEach();
    writeCodes();
    writePlaces();
    writeCut();
    writeOthersStay();
    listsCodes();
    listsPlaces();
    listsTunes();
    imageCodes();
    imageLeaves();
    restoreCodes();
    restoreAll();
    restoreAnew();
    restoreTwo();
    countWhat();
    countAnswers();
    countUndone();
    Check.end();
  }

  /** Promise 39: -2: no such TRAY, sort; -3, and the TRAY stays: n is below 0 or above 40. */
  private static void numbersCodes() {
    for (int t : new int[] {LOW, -1, 4, 5, HIGH}) for (int n : new int[] {-1, 0, 40, 41}) {
      Twin.leaves("P39 numbers(" + t + ", 0, " + n + ")", x -> x.numbers(t, 0, n), -2);
    }
    for (int sort : new int[] {LOW, -1, 4, 5, HIGH}) for (int n : new int[] {-1, 0, 40, 41}) for (int t : new int[] {0, 3}) {
      Twin.leaves("P39 numbers(" + t + ", " + sort + ", " + n + ")", x -> x.numbers(t, sort, n), -2);
    }
    for (int n : new int[] {LOW, -1, 41, 42, HIGH}) for (int t = 0; t < 4; t++) for (int sort = 0; sort < 4; sort++) {
      int tray = t;
      int asked = sort;
      Twin.leaves("P39 numbers(" + t + ", " + sort + ", " + n + ")", x -> x.numbers(tray, asked, n), -3);
    }
  }

  /** Terms, TRAYS: 0 to 40 numbers of sort 0 to 3; promise 39: 0. */
  private static void numbersSizes() {
    for (int t = 0; t < 4; t++) for (int sort = 0; sort < 4; sort++) for (int n : new int[] {0, 1, 39, 40}) {
      StandRank x = new StandRank();
      Check.due("P39 numbers(" + t + ", " + sort + ", " + n + ")", x.numbers(t, sort, n), 0);
      Check.due("P40 its last", x.write(t, n - 1, 5), n == 0 ? -7 : 5);
      Check.due("P40 behind its last", x.write(t, n, 5), -7);
      for (int other = 0; other < 4; other++) Check.due("P39 the others are missing", x.write(other, n, 5), other == t ? -7 : -6);
    }
  }

  /** Promise 39: all 0 (in place of another one). */
  private static void numbersAnew() {
    StandRank x = Check.told("court;person strength 99;tune;");
    x.numbers(0, 3, 40);
    for (int i = 0; i < 40; i++) x.write(0, i, 9);
    Check.due("P15 no tune 9", x.judge(0, 0), 0);
    Check.due("P39 anew", x.numbers(0, 3, 40), 0);
    Check.due("P39 all 0", x.judge(0, 0), -1);
    Check.due("P39 all 0: minutes", x.perform(0), 40);
    x.write(0, 5, 9);
    x.write(0, 39, 9);
    Check.due("P39 fewer", x.numbers(0, 3, 5), 0);
    Check.due("P39 fewer: all 0", x.perform(0), 5);
    Check.due("P39 fewer: no more", x.write(0, 5, 1), -7);
    Check.due("P39 more again", x.numbers(0, 3, 40), 0);
    Check.due("P39 more again: all 0", x.perform(0), 40);
    x.numbers(0, 0, 2);
    Check.due("P39 another sort", x.write(0, 0, 256), 0);
    x.numbers(0, 1, 2);
    Check.due("P39 another sort", x.write(0, 0, 256), 256);
    Check.due("P39 none", x.numbers(0, 1, 0), 0);
    Check.due("P39 none is not missing", x.perform(0), 0);
  }

  /** Terms, TRAYS 0 to 3: each of its own. */
  private static void numbersEach() {
    StandRank x = Check.told("court;" + "person strength 9;".repeat(5) + "tune;");
    for (int t = 0; t < 4; t++) Twin.row(x, t, t, 10 + t);
    for (int t = 0; t < 4; t++) Check.due("P39 tray " + t, x.judge(t, 2), 31 & ~(1 << t));
    x.numbers(2, 0, 1);
    x.write(2, 0, 14);
    int[] sits = {0, 1, 4, 3};
    for (int t = 0; t < 4; t++) Check.due("P39 tray " + t, x.judge(t, 2), 31 & ~(1 << sits[t]));
    for (int t = 0; t < 4; t++) Check.due("P40 sort of tray " + t, x.write(t, 0, 1L << 8 | 1L << 16 | 1L << 32), new long[] {0, 256, 0, 1L << 8 | 1L << 16 | 1L << 32}[t]);
  }

  /** Promise 40: -2: no such TRAY; -6; -7. */
  private static void writeCodes() {
    for (int t : new int[] {LOW, -1, 4, 5, HIGH}) for (int i : new int[] {-1, 0, 41}) Twin.leaves("P40 write(" + t + ", " + i + ", 1)", x -> x.write(t, i, 1), -2);
    for (int i : new int[] {LOW, -1, 0, 39, 40, HIGH}) Twin.leaves("P40 missing, write(3, " + i + ", 1)", x -> x.write(3, i, 1), -6);
    for (int i : new int[] {LOW, -1, 3, 4, 39, 40, 41, HIGH}) Twin.leaves("P40 write(0, " + i + ", 1) of 3", x -> x.write(0, i, 1), -7);
  }

  /** Promise 40: numbers 0 to n - 1. */
  private static void writePlaces() {
    for (int n : new int[] {0, 1, 2, 40}) {
      StandRank x = new StandRank();
      x.numbers(1, 2, n);
      for (int i = -1; i <= 41; i++) Check.due("P40 number " + i + " of " + n, x.write(1, i, 100 + i), i >= 0 && i < n ? 100 + i : -7);
    }
  }

  /** Promise 40: cut to its sort (8, 16, 32, 64 bits): as it is there. */
  private static void writeCut() {
    for (int sort = 0; sort < 4; sort++) {
      StandRank x = new StandRank();
      x.numbers(0, sort, 1);
      int bits = 8 << sort;
      long most = (1L << (bits - 1)) - 1;
      long[] told = {0, 1, -1, -2, most - 1, most, -most, -most - 1, 127, -128, 32767, -32768, HIGH, LOW};
      for (long v : told) {
        long want = v << (64 - bits) >> (64 - bits);
        Check.due("P40 " + v + " of " + bits + " bits", x.write(0, 0, v), want);
      }
      Check.due("P40 the greatest", x.write(0, 0, most), most);
      Check.due("P40 one more", x.write(0, 0, most + 1), -most - 1);
      Check.due("P40 the least", x.write(0, 0, -most - 1), -most - 1);
      Check.due("P40 one less", x.write(0, 0, -most - 2), most);
      Check.due("P40 all bits", x.write(0, 0, -1L), -1);
      if (sort < 3) {
        Check.due("P40 above its bits", x.write(0, 0, 1L << bits), 0);
        Check.due("P40 above its bits", x.write(0, 0, (1L << bits) + 3), 3);
        Check.due("P40 above its bits", x.write(0, 0, Long.MIN_VALUE + 5), 5);
      } else {
        Check.due("P40 64 bits", x.write(0, 0, Long.MIN_VALUE), Long.MIN_VALUE);
        Check.due("P40 64 bits", x.write(0, 0, Long.MAX_VALUE), Long.MAX_VALUE);
      }
    }
    // what is there is what counts: 256 and 3 are cut to a minute of tune 3
    StandRank x = Check.told("court;person strength 9;tune;tune;tune;tune;tires : tune;");
    Twin.row(x, 0, 0, 259);
    Check.due("P40 a deed as it is there", x.perform(0), 1);
    Check.due("P40 tune 3", x.person(0, 0), 6);
    Twin.row(x, 0, 0, 255);
    Check.due("P40 255 is NONE there: an evening", x.perform(0), 1);
    Check.due("P40 an evening", x.person(0, 0), 9);
    Twin.row(x, 0, 1, 255);
    Check.due("P40 255 is a deed of 16 bits: no person 5", x.judge(0, 1), 1);
  }

  /** Promise 40: number i alone. */
  private static void writeOthersStay() {
    StandRank x = Check.told("court;" + "person strength 9;".repeat(4) + "tune;");
    Twin.row(x, 0, 1, 10, 11, 12);
    x.write(0, 1, 13);
    Check.due("P40 the others stay", x.judge(0, 2), 2);
    x.write(0, 1, 13);
    Check.due("P40 again", x.judge(0, 2), 2);
    Check.due("P40 no deed", x.count(8), 0);
  }

  /** Promise 41: -2: the TRAY, the PERSON; -6; -5: there is none, it SITS now. */
  private static void listsCodes() {
    for (int t : new int[] {LOW, -1, 4, 5, HIGH}) for (int p : new int[] {-1, 0, 3, 4}) Twin.leaves("P41 lists(" + t + ", " + p + ")", x -> x.lists(t, p), -2);
    for (int p : new int[] {LOW, -1, 4, 5, HIGH}) for (int t = 0; t < 4; t++) {
      int tray = t;
      Twin.leaves("P41 lists(" + t + ", " + p + ")", x -> x.lists(tray, p), -2);
    }
    for (int p = 0; p < 4; p++) {
      int asked = p;
      Twin.leaves("P41 missing, " + p, x -> x.lists(3, asked), -6);
    }
    for (int t = 0; t < 3; t++) {
      int tray = t;
      Twin.leaves("P41 it sits, tray " + t, x -> x.lists(tray, 3), -5);
      Twin.leaves("P41 it sat in a minute, tray " + t, x -> x.lists(tray, 2), -5);
      // 1 is always tired by more than 0, and has less
      Twin.leaves("P41 there is none, tray " + t, x -> x.lists(tray, 1), -5);
    }
    Twin.leaves("P41 there is none, though no place is needed", () -> {
      StandRank x = Twin.busy();
      x.numbers(0, 1, 0);
      return x;
    }, x -> x.lists(0, 1), -5);
  }

  /** Promise 41: as far as it has places: how many. */
  private static void listsPlaces() {
    String text = "court;person strength 99;person strength 12;tune;tune;tune;tires : if who = 0 then 0 else if minute = tune then 4 else 2 end end;";
    // it must be tired by 13: by 4 4 4 and 2
    int[] music = {0, 1, 2, 0};
    StandRank told = Check.told(text);
    for (int places = 0; places <= 6; places++) {
      StandRank x = Check.told(text);
      x.numbers(1, 1, places);
      for (int i = 0; i < places; i++) x.write(1, i, 88);
      Check.due("P41 into " + places + " places", x.lists(1, 0), Math.min(places, 4));
      // those behind stay: no deed 88
      Check.due("P41 those behind stay, of " + places, x.judge(1, 0), places > 4 ? 4 : -1);
      x.perform(1);
      Check.due("P41 minutes of " + places, x.count(5), Math.min(places, 4));
      Check.due("P41 it is no deed", x.count(8), places == 0 ? 0 : 1);
      for (int k = 0; k < Math.min(places, 4); k++) told.play(music[k]);
      Check.due("P41 the same tunes, of " + places, x.person(1, 0), told.person(1, 0));
      told.evening();
    }
    StandRank x = Check.told(text);
    x.sit(1);
    x.numbers(0, 1, 3);
    x.write(0, 0, 88);
    Check.due("P41 alone already: none", x.lists(0, 0), 0);
    Check.due("P41 all stay", x.judge(0, 0), 0);
    x = Check.told("court;person strength 99;person strength 6;tune;");
    x.numbers(0, 0, 40);
    Check.due("P41 seven", x.lists(0, 0), 7);
    x.numbers(0, 0, 6);
    Check.due("P41 six of seven", x.lists(0, 0), 6);
    x = Check.told("court;person strength 99;person strength 7;tune;");
    x.numbers(0, 0, 40);
    Check.due("P41 not eight", x.lists(0, 0), -5);
  }

  /** Promise 41: TUNES of the MUSIC come into a TRAY of each sort. */
  private static void listsTunes() {
    for (int sort = 0; sort < 4; sort++) for (int t = 0; t < 4; t++) {
      StandRank x = Check.told("court;person strength 99;person strength 6;tune;tune;tune;tune;tires : if who = 0 then 0 else tune end;");
      x.numbers(t, sort, 3);
      // 1 3 3
      Check.due("P41 three", x.lists(t, 0), 3);
      Check.due("P41 it stands alone behind them", x.breakfast(t), 1);
      x.write(t, 0, 0);
      Check.due("P41 without the first it doesn't", x.breakfast(t), 3);
      x.write(t, 0, 1);
      x.write(t, 2, 2);
      Check.due("P41 by 2 in place of 3 it doesn't", x.breakfast(t), 3);
    }
  }

  /** Promise 42: -2; 0. */
  private static void imageCodes() {
    for (int i : new int[] {LOW, -1, 2, 3, HIGH}) Twin.leaves("P42 image(" + i + ")", x -> x.image(i), -2);
    for (int i = 0; i < 2; i++) {
      StandRank x = new StandRank();
      Check.due("P42 image(" + i + ")", x.image(i), 0);
      Check.due("P43 the other one isn't made", x.restore(1 - i), -5);
      Check.due("P43 this one is", x.restore(i), 0);
    }
  }

  /** Promise 42: an IMAGE is made; all else stays as it is. */
  private static void imageLeaves() {
    StandRank x = Twin.busy();
    x.image(1);
    for (int k = 4; k >= 0; k--) Check.due("P42 calls can be undone still", x.undo(1), k);
    Check.due("P42 undone", x.count(6), 30);
    Check.due("P42 the tape stays", x.count(9), 40);
    Check.due("P42 the fault stays", x.fault(0), 2);
    Check.due("P42 trays stay", x.judge(1, 0), 4);
    Check.due("P43 as it was made", x.restore(1), 0);
    Check.due("P43 as it was made", x.count(5), 2);
  }

  /** Promise 43: -2; -5: none was made. */
  private static void restoreCodes() {
    for (int i : new int[] {LOW, -1, 2, 3, HIGH}) Twin.leaves("P43 restore(" + i + ")", x -> x.restore(i), -2);
    Twin.leaves("P43 none was made", x -> x.restore(1), -5);
    for (int i = 0; i < 2; i++) Check.due("P43 none at first", new StandRank().restore(i), -5);
    StandRank x = new StandRank();
    x.restore(0);
    Check.due("P43 a refused one makes none", x.restore(0), -5);
    x.image(2);
    x.image(-1);
    for (int i = 0; i < 2; i++) Check.due("P43 a refused image() makes none", x.restore(i), -5);
  }

  /** Promise 43: THE COURT and what a call could bring back by UNDOING is as it was. */
  private static void restoreAll() {
    StandRank x = Twin.busy();
    StandRank y = Twin.busy();
    x.image(1);
    x.write(0, 1, 0);
    x.numbers(2, 0, 4);
    x.numbers(3, 2, 1);
    x.evening();
    x.change(1, 3);
    x.sit(0);
    x.court(40);
    x.sit(0);
    Check.due("P43 another court", x.count(0), 1);
    Check.due("P43 restored", x.restore(1), 0);
    for (int what = 0; what <= 10; what++) {
      if (what != 8 && what != 9) Check.due("P43 count(" + what + ")", x.count(what), y.count(what));
    }
    for (int p = 0; p < 4; p++) {
      for (int what = 0; what < 7; what++) Check.due("P43 person(" + p + ", " + what + ")", x.person(p, what), y.person(p, what));
      for (int t = 0; t < 2; t++) Check.due("P43 tires(" + p + ", " + t + ")", x.tires(p, t), y.tires(p, t));
      Check.due("P43 spot(" + p + ")", x.spot(p), y.spot(p));
      Check.due("P43 office(" + p + ")", x.office(p), y.office(p));
    }
    Check.due("P43 nothing can be undone behind", x.count(8), 0);
    Check.due("P43 nothing can be undone behind", x.undo(1), -3);
    Check.due("P43 the tape is not in it", x.count(9), 0);
    Check.due("P43 the fault is not in it", x.fault(0), 0);
    Check.due("P43 trays are not in it", x.judge(1, 0), 4);
    Check.due("P43 trays are not in it: written", x.rooms(0, 0, 2), 1);
    Check.due("P43 trays are not in it: another", x.write(2, 3, 5), 5);
    Check.due("P43 trays are not in it: a new one", x.write(3, 0, 5), 5);
    x.play(0);
    y.play(0);
    Check.due("P43 goes on from there: strengths", x.count(6), y.count(6));
    Check.due("P43 goes on from there: pain", x.person(1, 5), y.person(1, 5));
    Check.due("P43 goes on from there: can be undone", x.count(8), 1);
    Check.due("P43 goes on from there: undone", x.undo(1), 0);
    x.evening();
    Check.due("P43 the evening of its text", x.count(6), 30);
  }

  /** Promise 43: the IMAGE stays, whatever comes behind. */
  private static void restoreAnew() {
    StandRank x = Check.told("court;person strength 9;person strength 8;tune;");
    x.image(0);
    for (int k = 0; k < 3; k++) {
      x.play(0);
      x.change(0, 1);
      x.sit(1);
      Check.due("P43 again", x.restore(0), 0);
      Check.due("P43 strengths", x.count(6), 17);
      Check.due("P43 spots", x.spot(0), 0);
      Check.due("P43 all stand", x.count(3), 3);
      Check.due("P43 pain", x.person(0, 5), 0);
    }
    x.play(0);
    Check.due("P42 made anew", x.image(0), 0);
    x.play(0);
    x.restore(0);
    Check.due("P43 of the new one", x.count(5), 1);
    Check.due("P43 of the new one", x.count(6), 15);
    // at once behind one another, with nothing between
    x.image(0);
    Check.due("P43 at once", x.restore(0), 0);
    Check.due("P43 at once", x.count(5), 1);
    Check.due("P43 nothing can be undone", x.undo(1), -3);
  }

  /** Terms, IMAGES 0 to 1: each of its own; an empty court, too. */
  private static void restoreTwo() {
    StandRank x = new StandRank();
    x.image(0);
    Check.tell(x, "court;person strength 9;tune odds 4;office 6;");
    x.image(1);
    for (int k = 0; k < 2; k++) {
      Check.due("P43 the empty one", x.restore(0), 0);
      for (int what = 0; what <= 10; what++) Check.due("P43 the empty one, count(" + what + ")", x.count(what), 0);
      Check.due("P43 the empty one, office", x.office(0), 0);
      Check.due("P43 the empty one, nobody", x.person(0, 0), -99000002);
      Check.due("P43 the other one", x.restore(1), 0);
      int[] want = {1, 1, 1, 1, 1, 0, 9, 4, 0, 0, 4};
      for (int what = 0; what <= 10; what++) Check.due("P43 the other one, count(" + what + ")", x.count(what), want[what]);
      Check.due("P43 the other one, office", x.office(0), 6);
    }
  }

  /** Promise 44: what 0 to 10; NONE for others. */
  private static void countWhat() {
    for (int what : new int[] {LOW, -2, -1, 11, 12, HIGH}) {
      Check.due("P44 count(" + what + ") of a new object", new StandRank().count(what), -1);
      Twin.leaves("P44 count(" + what + ")", x -> x.count(what), -1);
    }
    int[] want = {4, 2, 3, 3, 2, 2, 12, 5, 5, 40, 12};
    for (int what = 0; what <= 10; what++) {
      int asked = what;
      Twin.leaves("P44 count(" + what + ")", x -> x.count(asked), want[what]);
    }
  }

  /** Promise 44: the most of each. */
  private static void countAnswers() {
    StandRank x = Check.told("court;" + "person strength 99;".repeat(6) + "tune odds 9;".repeat(4) + "office 99;".repeat(6) + "tires : 0;");
    int[] want = {6, 4, 6, 63, 6, 0, 594, 36, 0, 0, 18};
    for (int what = 0; what <= 10; what++) Check.due("P44 count(" + what + ")", x.count(what), want[what]);
    for (int p = 0; p < 6; p++) {
      x.sit(p);
      Check.due("P44 who stands", x.count(3), 63 & ~((2 << p) - 1));
      Check.due("P44 how many stand", x.count(4), 5 - p);
      Check.due("P44 strengths of those who sit, too", x.count(6), 594);
      Check.due("P44 people", x.count(0), 6);
    }
    x.evening();
    x.numbers(0, 0, 40);
    x.perform(0);
    x.perform(0);
    x.perform(0);
    Check.due("P44 minutes have no most", x.count(5), 120);
    x = Check.told("court;person strength 0;person strength 5;tune;tires : 3;");
    x.play(0);
    Check.due("P44 strengths together", x.count(6), 2);
    x.play(0);
    Check.due("P44 strengths together, 0", x.count(6), 0);
  }

  /** Promise 44: 8 calls that can be UNDONE, 9 bytes on THE TAPE. */
  private static void countUndone() {
    StandRank x = Check.told("court;person strength 9;tune;");
    for (int k = 1; k <= 12; k++) {
      x.play(0);
      Check.due("P44 behind " + k + " calls", x.count(8), Math.min(k, 10));
    }
    x.undo(4);
    Check.due("P44 behind undo(4)", x.count(8), 6);
    x.undo(6);
    Check.due("P44 behind undo(6)", x.count(8), 0);
    for (int k = 1; k <= 46; k++) {
      x.feed(0, 0, 0, 0, 0);
      Check.due("P44 bytes, " + k, x.count(9), Math.min(20 * k, 900));
    }
    x.court(0);
    Check.due("P44 bytes behind court()", x.count(9), 0);
    Check.due("P44 lines stay with a fault", x.count(10), 3);
  }
}
