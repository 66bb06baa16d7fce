/** Promises 39 to 44: numbers, write, lists, image, restore, count. */
public final class TraysTest {
  public static void main(String[] args) {
    trays();
    sorts();
    lists();
    images();
    counts();
    Check.end();
  }

  private static void trays() {
    StandRank x = new StandRank();
    Check.due("40 tray", x.write(4, 0, 1), -2);
    Check.due("40 tray", x.write(-1, 0, 1), -2);
    Check.due("40 missing", x.write(0, 99, 1), -6);
    Check.due("39 tray", x.numbers(4, 0, 99), -2);
    Check.due("39 tray", x.numbers(-1, 0, 0), -2);
    Check.due("39 sort", x.numbers(0, 4, 99), -2);
    Check.due("39 sort", x.numbers(0, -1, 0), -2);
    Check.due("39 n", x.numbers(0, 0, 41), -3);
    Check.due("39 n", x.numbers(0, 0, -1), -3);
    Check.due("39 still missing", x.judge(0, 0), -6);
    Check.due("39 none", x.numbers(0, 0, 0), 0);
    Check.due("39 not missing", x.judge(0, 0), -1);
    Check.due("40 no such number", x.write(0, 0, 1), -7);
    Check.due("39 forty", x.numbers(3, 3, 40), 0);
    Check.due("40 the last", x.write(3, 39, 77), 77);
    Check.due("40 no such number", x.write(3, 40, 77), -7);
    Check.due("40 no such number", x.write(3, -1, 77), -7);
    Check.due("39 refused", x.numbers(3, 0, 41), -3);
    Check.due("39 the tray stays", x.write(3, 39, 1L << 40), 1L << 40);
    Check.due("39 anew", x.numbers(3, 3, 40), 0);
    Check.tell(x, "court;tune;");
    // all 0: forty minutes of tune 0
    Check.due("39 all 0", x.perform(3), 40);
    Check.due("40 written", x.write(3, 2, 9), 9);
    Check.due("40 and read", x.perform(3), 2);
  }

  private static void sorts() {
    StandRank x = new StandRank();
    long v = 0x123456789abcdef0L;
    long[] want = {(byte) 0xf0, (short) 0xdef0, 0x9abcdef0, v};
    for (int sort = 0; sort < 4; sort++) {
      x.numbers(0, sort, 1);
      Check.due("40 sort " + sort, x.write(0, 0, v), want[sort]);
      Check.due("40 NONE in sort " + sort, x.write(0, 0, -1), -1);
      Check.due("40 127 in sort " + sort, x.write(0, 0, 127), 127);
      Check.due("40 128 in sort " + sort, x.write(0, 0, 128), sort == 0 ? -128 : 128);
    }
    // 257 is cut to 1, a tune
    Check.tell(x, "court;person strength 1;tune;tune;");
    x.numbers(0, 0, 1);
    Check.due("40 cut", x.write(0, 0, 257), 1);
    Check.due("40 as it is there", x.breakfast(0), 1);
  }

  private static void lists() {
    StandRank x = Check.told("court;person strength 9;person strength 4;person strength 9;tune;tune;tires : if who = 0 then 0 else 2 + 3 * tune end;");
    Check.due("41 tray", x.lists(4, 0), -2);
    Check.due("41 person", x.lists(0, 3), -2);
    Check.due("41 missing", x.lists(0, 0), -6);
    x.numbers(0, 0, 3);
    x.write(0, 2, 5);
    Check.due("41 none", x.lists(0, 1), -5);
    // 1 1 seats both, 1 in the first minute
    Check.due("41 alone", x.alone(0), 2);
    Check.due("41 two", x.lists(0, 0), 2);
    Check.due("41 the third stays", x.judge(0, 0), 2);
    x.numbers(0, 0, 2);
    Check.due("41 two", x.lists(0, 0), 2);
    Check.due("41 a night by which it stands alone", x.breakfast(0), 1);
    x.numbers(1, 1, 1);
    Check.due("41 as far as it has places", x.lists(1, 0), 1);
    Check.due("41 tune 1", x.breakfast(1), 5);
    x.numbers(2, 1, 0);
    Check.due("41 no places", x.lists(2, 0), 0);
    x.sit(1);
    Check.due("41 it sits", x.lists(0, 1), -5);
    x.sit(2);
    Check.due("41 alone now", x.lists(0, 0), 0);
    Check.due("41 not undone", x.count(8), 2);
  }

  private static void images() {
    StandRank x = new StandRank();
    Check.due("42 none", x.image(2), -2);
    Check.due("42 none", x.image(-1), -2);
    Check.due("43 none", x.restore(2), -2);
    Check.due("43 none", x.restore(-1), -2);
    Check.due("43 not made", x.restore(0), -5);
    Check.due("43 not made", x.restore(1), -5);
    Check.due("42 no court", x.image(1), 0);
    Check.tell(x, "court;person strength 5 mark 3;person strength 1;tune odds 4;tires : 1 + who;office 8;");
    x.play(0);
    x.change(0, 1);
    x.wine(0, 2);
    Check.due("42 made", x.image(0), 0);
    Check.due("42 still undone", x.count(8), 3);
    Check.tray(x, 0, 5, 6);
    x.evening();
    Check.tell(x, "court;person strength 1;person strength 1;person strength 1;");
    x.sit(2);
    Check.feed(x, "court;");
    Check.due("43 restored", x.restore(0), 0);
    Check.due("43 people", x.count(0), 2);
    Check.due("43 lines", x.count(10), 6);
    Check.due("43 strength", x.person(0, 0), 6);
    Check.due("43 mark", x.person(0, 1), 3);
    Check.due("43 who stands", x.count(3), 1);
    Check.due("43 spots", x.spot(0), 1);
    Check.due("43 pain", x.person(1, 5), 1);
    Check.due("43 minute", x.person(1, 6), 1);
    Check.due("43 minutes", x.count(5), 1);
    Check.due("43 law", x.tires(0, 0), 1);
    Check.due("43 odds", x.count(7), 4);
    Check.due("43 office", x.office(0), 8);
    Check.due("43 nothing can be undone", x.count(8), 0);
    Check.due("43 nothing can be undone", x.undo(1), -3);
    Check.due("43 the tape stays", x.count(9), 20);
    Check.due("43 trays stay", x.write(0, 1, 7), 7);
    x.play(0);
    Check.due("43 goes on from there", x.person(0, 0), 5);
    Check.due("43 again", x.restore(0), 0);
    Check.due("43 again", x.person(0, 0), 6);
    x.evening();
    Check.due("43 evening of its text", x.person(0, 0), 5);
    Check.due("43 the other one", x.restore(1), 0);
    Check.due("43 no people", x.count(0), 0);
    Check.due("43 no lines", x.count(10), 0);
    Check.due("43 alone is reckoned anew", x.alone(0), -2);
  }

  private static void counts() {
    StandRank x = Check.told("court;person strength 5;person strength 1;person strength 7;tune odds 4;tune;office 8;office 8;office 1;tires : 2;");
    x.play(0);
    x.sit(2);
    Check.feed(x, "x");
    int[] want = {3, 2, 3, 1, 1, 1, 8, 5, 2, 20, 10};
    for (int what = 0; what < want.length; what++) Check.due("44 count(" + what + ")", x.count(what), want[what]);
    Check.due("44 others", x.count(-1), -1);
    Check.due("44 others", x.count(11), -1);
  }
}
