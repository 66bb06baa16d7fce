/** Promises 35 and 36: rests, rest. */
public final class WaitingTest {
  public static void main(String[] args) {
    codes();
    plain();
    tiredOut();
    othersGone();
    paidToStand();
    askedAnew();
    Check.end();
  }

  private static void codes() {
    StandRank x = Check.told("court;person strength 4;person strength 1;person strength 1;tune;");
    x.sit(2);
    Check.due("35 person", x.rests(0, 3, 0, 21), -2);
    Check.due("35 person", x.rests(-1, 0, 0, 0), -2);
    Check.due("35 both one", x.rests(1, 1, 0, 0), -2);
    Check.due("35 tune", x.rests(0, 2, 1, 21), -2);
    Check.due("35 tune", x.rests(0, 1, -1, 0), -2);
    Check.due("35 bound", x.rests(0, 2, 0, 21), -3);
    Check.due("35 bound", x.rests(0, 1, 0, -1), -3);
    Check.due("35 one sits", x.rests(0, 2, 0, 3), -5);
    Check.due("35 one sits", x.rests(2, 0, 0, 3), -5);
    Check.due("36 person", x.rest(0, 3, 0, 0, -1), -2);
    Check.due("36 tune", x.rest(0, 1, 1, 0, -1), -2);
    Check.due("36 bound", x.rest(0, 2, 0, 21, -1), -3);
    Check.due("36 one sits", x.rest(0, 2, 0, 0, -1), -5);
    Check.due("36 below 0", x.rest(0, 1, 0, 0, -1), -3);
    Check.due("36 not so many", x.rest(0, 1, 0, 0, 1), -1);
    Check.due("36 not so many", x.rest(0, 1, 0, 0, Integer.MAX_VALUE), -1);
  }

  private static void rests(StandRank x, int p, int q, int tune, int bound, int... told) {
    String call = "(" + p + ", " + q + ", " + tune + ", " + bound + ")";
    Check.due("35 rests" + call, x.rests(p, q, tune, bound), told.length);
    for (int k = 0; k < told.length; k++) Check.due("36 rest" + call + " " + k, x.rest(p, q, tune, bound, k), told[k]);
    Check.due("36 rest" + call + " behind", x.rest(p, q, tune, bound, told.length), -1);
  }

  private static void plain() {
    // a minute pains by 3, the first place is worth 5 more
    StandRank x = Check.told("court;person strength 50;person strength 50;tune;pains : 3;office 9;office 4;");
    rests(x, 0, 1, 0, 0, 0);
    // either 0 stands one minute and 1 none, or the other way
    rests(x, 0, 1, 0, 1, 1, 100);
    // two minutes cost more than they win
    rests(x, 0, 1, 0, 2, 1, 100);
    x.play(0);
    rests(x, 0, 1, 0, 1, 1, 100);
    x = Check.told("court;person strength 50;person strength 50;tune;pains : 1;");
    rests(x, 0, 1, 0, 20, 0);
    x = Check.told("court;person strength 50;person strength 50;tune;pains : 0;");
    Check.due("35 all", x.rests(0, 1, 0, 20), 441);
    Check.due("36 in their order", x.rest(0, 1, 0, 20, 22), 101);
    Check.due("36 the last", x.rest(0, 1, 0, 20, 440), 2020);
    // without pain one of both tells all 20
    x = Check.told("court;person strength 99;person strength 99;tune;pains : 0;office 9;office 4;");
    Check.due("35 one tells 20", x.rests(0, 1, 0, 20), 41);
    Check.due("36 one tells 20", x.rest(0, 1, 0, 20, 19), 1920);
    Check.due("36 one tells 20", x.rest(0, 1, 0, 20, 20), 2000);
  }

  private static void tiredOut() {
    // 1 can't stand more than one minute: told more it has the pain of a second one
    StandRank x = Check.told("court;person strength 9;person strength 1;tune;pains : 1;office 9;office 4;");
    rests(x, 0, 1, 0, 2, 100);
    rests(x, 1, 0, 0, 2, 1);
    x = Check.told("court;person strength 0;person strength 0;tune;pains : 0;office 9;office 4;");
    rests(x, 0, 1, 0, 1, 0, 1, 100, 101);
  }

  private static void othersGone() {
    // by who stands, and beside whom, all others gone; spots stay
    StandRank x = Check.told("court;person strength 9;person strength 9;person strength 9;tune;pains : if up = 3 then 9 else 1 end;office 9;office 4;");
    rests(x, 0, 2, 0, 1, 1, 100);
    x = Check.told("court;person strength 9;person strength 9;person strength 9;tune;pains : if beside = 1 then 9 else 1 end;office 9;office 4;");
    rests(x, 0, 2, 0, 1, 1, 100);
    rests(x, 0, 1, 0, 1, 1, 100);
    x = Check.told("court;person strength 9;person strength 9;tune;pains : if up = 2 then 0 else 9 end;office 9;office 4;");
    // beside the other one it costs nothing; alone it costs more than it wins
    rests(x, 0, 1, 0, 1, 0, 101);
    // tune and minute
    x = Check.told("court;person strength 9;person strength 9;tune;tune;pains : if tune = 1 and minute = 2 then 0 else 9 end;office 9;office 4;");
    rests(x, 0, 1, 0, 1, 0);
    rests(x, 0, 1, 1, 1, 0);
    x.play(0);
    x.play(0);
    rests(x, 0, 1, 0, 1, 0);
    rests(x, 0, 1, 1, 1, 1, 100, 101);
    Check.due("35 nothing changes", x.count(5), 2);
    Check.due("35 nothing changes", x.count(3), 3);
  }

  private static void askedAnew() {
    StandRank x = Check.told("court;person strength 99;person strength 99;person strength 1;tune;tune;pains : if tune = 0 then 0 - 1 else 3 end;office 9;office 4;");
    Check.due("36 not behind rests()", x.rest(0, 1, 0, 20, 0), 2020);
    rests(x, 0, 1, 0, 20, 2020);
    rests(x, 0, 1, 1, 1, 1, 100);
    rests(x, 0, 1, 0, 1, 101);
    rests(x, 0, 2, 0, 3, 302, 303);
    rests(x, 2, 0, 0, 3, 203, 303);
    rests(x, 0, 1, 0, 3, 303);
    rests(x, 0, 1, 0, 0, 0);
    rests(x, 0, 1, 0, 2, 202);
    Check.tell(x, "court;person strength 9;person strength 9;person strength 9;tune;pains : 3;office 9;office 4;");
    rests(x, 0, 1, 0, 1, 1, 100);
    Check.tell(x, "court;person strength 9;person strength 9;person strength 9;tune;pains : 3;office 9;office 9;");
    rests(x, 0, 1, 0, 1, 0);
  }

  private static void paidToStand() {
    StandRank x = Check.told("court;person strength 99;person strength 2;tune;pains : 0 - 1;");
    // 1 sits in minute 3, with the pay for it
    rests(x, 0, 1, 0, 5, 503, 504, 505);
    rests(x, 1, 0, 0, 5, 305, 405, 505);
  }
}
