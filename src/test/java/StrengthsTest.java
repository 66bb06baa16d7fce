/** Promises 32 to 34: rooms, bound, next. */
public final class StrengthsTest {
  public static void main(String[] args) {
    codes();
    rooms();
    nexts();
    Check.end();
  }

  private static void codes() {
    StandRank x = Check.told("court;person strength 4;person strength 1;tune;");
    x.sit(1);
    Check.due("32 tray", x.rooms(4, 0, 0), -2);
    Check.due("32 person", x.rooms(0, 2, 0), -2);
    Check.due("32 missing", x.rooms(0, 1, 9), -6);
    Check.due("33 what", x.bound(0, 0, 0, 2), -2);
    Check.due("33 what", x.bound(0, 0, 0, -1), -2);
    Check.due("33 tray", x.bound(-1, 0, 0, 0), -2);
    Check.due("33 missing", x.bound(0, 0, 0, 0), -6);
    Check.due("34 person", x.next(0, -1, 0), -2);
    Check.due("34 missing", x.next(0, 0, 0), -6);
    Check.tray(x, 0, new long[31]);
    Check.due("32 too many", x.rooms(0, 1, 99), -4);
    Check.due("33 too many", x.bound(0, 1, 99, 0), -4);
    Check.due("34 too many", x.next(0, 1, 99), -4);
    Check.tray(x, 0, 0, 5);
    Check.due("32 no tune", x.rooms(0, 1, 0), -3);
    Check.due("33 no tune", x.bound(0, 1, 0, 0), -3);
    Check.due("34 no tune", x.next(0, 1, 0), -3);
    Check.tray(x, 0, 0, 0);
    Check.due("32 minute", x.rooms(0, 1, 3), -3);
    Check.due("32 minute", x.rooms(0, 0, -1), -3);
    Check.due("33 minute", x.bound(0, 1, 3, 0), -3);
    Check.due("34 minute", x.next(0, 1, -1), -3);
    Check.due("32 it sits", x.rooms(0, 1, 2), -5);
    Check.due("33 it sits", x.bound(0, 1, 2, 0), -5);
    Check.due("34 it sits", x.next(0, 1, 2), -5);
  }

  private static void room(StandRank x, int p, int minute, int many, int least, int greatest) {
    Check.due("32 rooms(0, " + p + ", " + minute + ")", x.rooms(0, p, minute), many);
    Check.due("33 least", x.bound(0, p, minute, 0), least);
    Check.due("33 greatest", x.bound(0, p, minute, 1), greatest);
  }

  private static void rooms() {
    StandRank x = Check.told("court;person strength 4;person strength 1;tune;tune;tires : 3 + 2 * tune;");
    Check.tray(x, 0, 0, 1);
    room(x, 0, 1, 3, 0, 2);
    room(x, 0, 2, 5, 3, 7);
    room(x, 0, 0, 92, 8, 99);
    StandRank y = Check.told("court;person strength 4;tune;tires : 3;");
    Check.tray(y, 0, 0);
    Check.due("33 not behind rooms()", y.bound(0, 0, 1, 1), 2);
    Check.due("32 nothing changes", x.person(0, 0), 4);
    Check.tray(x, 0);
    room(x, 0, 0, 100, 0, 99);
    x = Check.told("court;person strength 4;tune;tires : if strength > 50 then 99 else 0 end;");
    Check.tray(x, 0, 0);
    room(x, 0, 1, 48, 51, 98);
    room(x, 0, 0, 52, 0, 99);
    Check.tray(x, 0, 0, 0);
    room(x, 0, 2, 0, -1, -1);
    // it leans on the other one, which sits in minute 2
    x = Check.told("court;person strength 4;person strength 1;tune;tires : 2 - beside;");
    Check.tray(x, 0, 0, 0, 0);
    room(x, 0, 1, 1, 0, 0);
    room(x, 0, 2, 1, 1, 1);
    room(x, 0, 3, 2, 2, 3);
    x.play(0);
    room(x, 0, 1, 1, 0, 0);
    room(x, 0, 2, 2, 1, 2);
  }

  private static void nexts() {
    StandRank x = Check.told("court;person strength 4;tune;tune;tune;tires : tune * 2;");
    Check.tray(x, 0, 2, 2);
    // 4 to 7 sit in minute 2: none would sit in one minute of any
    Check.due("34 none would sit", x.next(0, 0, 2), 0);
    // 0 to 3 in minute 1: of tune 1 half would
    Check.due("34 half of them", x.next(0, 0, 1), 1);
    // 8 to 99 in none
    Check.due("34 none would sit", x.next(0, 0, 0), 0);
    x = Check.told("court;person strength 4;tune;tune;tune;tires : if tune = 0 then 20 else if tune = 1 then 60 else 40 end end;");
    Check.tray(x, 0);
    // 40 of 100 would by 1 and 2 alike
    Check.due("34 the first", x.next(0, 0, 0), 1);
    x = Check.told("court;person strength 4;tune;tune;tires : if minute > 0 then tune * 9 else 9 - tune * 5 end;");
    Check.tray(x, 0, 0, 0);
    // 0 to 8 sit in minute 1; tune 1 tires by 4 now, but by 9 behind the night
    Check.due("34 from now on", x.next(0, 0, 1), 1);
    x = Check.told("court;person strength 4;");
    Check.tray(x, 0);
    Check.due("34 no tunes", x.next(0, 0, 0), -1);
    Check.due("32 no tunes", x.rooms(0, 0, 0), 100);
    x = Check.told("court;person strength 4;tune;tires : 0;");
    Check.tray(x, 0, 0);
    Check.due("34 no strengths", x.next(0, 0, 1), -1);
    Check.due("33 no strengths", x.bound(0, 0, 1, 0), -1);
    x = Check.told("court;person strength 4;tune;tune;tires : if tune = 0 then 10 else strength + 1 - strength * strength end;");
    Check.tray(x, 0, 0);
    // of 0 to 9: by tune 1 0, 1 are tired by 1, others by nothing
    Check.due("34 by each strength", x.next(0, 0, 1), 1);
    x = Check.told("court;person strength 4;tune;tune;tires : if tune = 0 then 1 else if strength = 99 or strength = 98 then 99 else 0 end end;");
    Check.tray(x, 0, 0);
    // of 1 to 99: by tune 0 none would sit, by tune 1 98 would
    Check.due("34 98 would", x.next(0, 0, 0), 1);
    x = Check.told("court;person strength 4;person strength 0;tune;tune;tires : if who = 1 then 1 else if tune = 0 then 50 else 50 + beside end end;");
    Check.tray(x, 0);
    x.play(0);
    // beside nobody both tunes are alike
    x.evening();
    // beside 1 by tune 1 51 of 100 would, by tune 0 50
    Check.due("34 as all is now", x.next(0, 0, 0), 0);
    x = Check.told("court;person strength 4;person strength 0;tune;tune;tires : if who = 1 then 1 else if tune = 0 then 48 else 49 + beside end end;");
    Check.tray(x, 0);
    Check.due("34 as all is now", x.next(0, 0, 0), 1);
  }
}
