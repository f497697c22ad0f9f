/** What would be if, debts, thieves, promises 10 to 22: each bound that the document names, on it and one beyond. */
public final class BoundsWhatIfTest {
  private static final int NOBODY = 1000000001;
  private static final String SIX_IDLE = "gl0202000;".repeat(6);

  public static void main(String[] args) {
    promise10NobodyOneSixSeven();
    promise10NoOrderAllowed();
    promise10AlikeTheFirst();
    promise10HoursNoMatter();
    promise10LittleOil();
    promise10EachOrderIsTried();
    promise10NoneBehindOne();
    promise11FirstAndLastCell();
    promise11AlikeTheLeast();
    promise11NoOil();
    promise12FirstAndLastHour();
    promise12AlikeTheFirst();
    promise12SeventhGoer();
    promise13AloneAndSeventh();
    promise13TheOthersAsTheyAre();
    promise14FirstAndLastCell();
    promise14NearerByOne();
    promise14AlikeTheFirst();
    promise14HowFarHeFetches();
    promise14OilOfBoth();
    promise14WhereItStandsThen();
    promise15FirstAndLastCell();
    promise15AlikeTheLeast();
    promise16NoneAtLeast();
    promise16OneFartherOneNearer();
    promise16AsFarAsCanBe();
    promise16WhoOwes();
    promise16FirstAndSeventhGoer();
    promise17NoneToPay();
    promise17SixPayments();
    promise17GroupsThatPayApart();
    promise18EndsOfTheAlley();
    promise18FirstAndLastHour();
    promise19EndsOfTheAlley();
    promise19AlikeTheFirst();
    promise20ThreeAndFourOff();
    promise20FirstAndLastHour();
    promise20AnybodyOfSeven();
    promise21EmptyRow();
    promise21FullRow();
    promise21KindByKind();
    promise21FigureByFigure();
    promise21NumbersThatAreNoCell();
    promise22NoneAndAll();
    promise22TheLeastOfSeveral();
    Due.end("BoundsWhatIfTest");
  }

  private static void orderIs(String text, int what, int cost, int... goers) {
    LightAsFarAsThePump x = text.isEmpty() ? new LightAsFarAsThePump() : Due.told(text);
    Due.is("best(" + what + ", -1) of " + text, x.best(what, -1), cost);
    for (int i = 0; i < goers.length; i++) Due.is("best(" + what + ", " + i + ") of " + text, x.best(what, i), goers[i]);
    Due.is("best(" + what + ") no such place", x.best(what, goers.length), -1);
    Due.is("best(" + what + ") below", x.best(what, -2), -4);
  }

  private static void promise10NobodyOneSixSeven() {
    for (int what = 0; what < 2; what++) {
      orderIs("", what, 0);
      orderIs("gc0202500;", what, 0, 0);
      orderIs(SIX_IDLE, what, 0, 0, 1, 2, 3, 4, 5);
      LightAsFarAsThePump seven = Due.told(SIX_IDLE + "gl0202000;");
      for (int i = -1; i < 7; i++) Due.is("seven, " + i, seven.best(what, i), -3);
    }
  }

  private static void promise10NoOrderAllowed() {
    String away = "gg0202500;";
    for (int n = 1; n <= 6; n++) {
      LightAsFarAsThePump x = Due.told(away.repeat(n));
      for (int i = -1; i < n; i++) Due.is("none of " + n + ", " + i, x.best(1, i), -9);
      Due.is("no such place of " + n, x.best(1, n), -1);
      Due.is("below of " + n, x.best(1, -2), -4);
      Due.is("none is no REFUSAL", x.count(11) + x.count(14), 2);
      // Without OIL nobody has it: it stays at the PUMP.
      x.set(1, 0);
      Due.is("no OIL, all of " + n, x.best(1, -1), 15 * n);
      Due.is("no OIL, the first ORDER", x.best(1, n - 1), n - 1);
    }
  }

  private static void promise10AlikeTheFirst() {
    // Any ORDER with 2 behind 1 costs nothing, and with the CAREFUL one last it is at the PUMP.
    orderIs("gl0202000;gg0202500;gg0253000;", 0, 0, 0, 1, 2);
    orderIs("gl0202000;gg0253000;gg0202500;", 0, 0, 0, 2, 1);
    orderIs("gg0253000;gg0202500;gl0202000;", 0, 0, 1, 0, 2);
    orderIs("gc0202000;gg0202500;gc0252000;gl0202000;", 1, 0, 0, 1, 2, 3);
    orderIs("gc0252000;gc0202000;gg0202500;gl0202000;", 1, 0, 1, 2, 0, 3);
  }

  private static void promise10HoursNoMatter() {
    for (String hour : new String[] {"00", "05", "11"}) orderIs("gg02530" + hour + ";gg0202505;", 0, 0, 1, 0);
  }

  private static void promise10LittleOil() {
    // It burns for one of them: for the MIDWIFE, to whom the dark is dearer.
    orderIs("o010;gg0203000;gm0203000;", 0, 30, 1, 0);
    orderIs("o000;gg0203000;gm0203000;", 0, 90, 0, 1);
  }

  /** Legs of 4 CELLS, each beginning where the one ahead of it ends: only in that ORDER is there no COST. */
  private static void promise10EachOrderIsTried() {
    for (int n = 1; n <= 6; n++) eachOrderIsTried(new int[n], 0, 0);
  }

  private static void eachOrderIsTried(int[] order, int begun, int used) {
    if (begun == order.length) {
      orderIsTheOnlyOne(order);
      return;
    }
    for (int goer = 0; goer < order.length; goer++) {
      if ((used >> goer & 1) == 1) continue;
      order[begun] = goer;
      eachOrderIsTried(order, begun + 1, used | 1 << goer);
    }
  }

  private static void orderIsTheOnlyOne(int[] order) {
    int n = order.length;
    String[] legs = new String[n];
    for (int i = 0; i < n; i++) legs[order[i]] = "gg0" + (10 + 4 * i) + (14 + 4 * i) + "00;";
    LightAsFarAsThePump x = new LightAsFarAsThePump();
    String text = "p10;" + String.join("", legs);
    for (int i = 0; i < text.length(); i++) x.letter(text.charAt(i));
    Due.is("night of " + text, x.night(), n + 1);
    Due.is("best(0, -1) of " + text, x.best(0, -1), 0);
    for (int i = 0; i < n; i++) Due.is("best(0, " + i + ") of " + text, x.best(0, i), order[i]);
  }

  private static void promise10NoneBehindOne() {
    LightAsFarAsThePump x = Due.told("gg0202500;gg0253000;");
    Due.is("an ORDER there is", x.best(0, -1), 0);
    Due.is("none at cockcrow", x.best(1, -1), -9);
    Due.is("none at cockcrow, place 1", x.best(1, 1), -9);
    Due.is("an ORDER there still is", x.best(0, 1), 1);
  }

  private static void promise11FirstAndLastCell() {
    Due.is("the first CELL", Due.told("gd0000900;").bestPump(), 0);
    Due.is("the last CELL", Due.told("gd0393000;").bestPump(), 39);
    Due.is("the last but one", Due.told("gd0383000;").bestPump(), 38);
    Due.is("the first but one", Due.told("gd0011000;").bestPump(), 1);
  }

  private static void promise11AlikeTheLeast() {
    Due.is("10 and 30 alike", Due.told("gd0101500;gd0303500;").bestPump(), 10);
    Due.is("30 and 10 alike", Due.told("gd0303500;gd0101500;").bestPump(), 10);
    Due.is("all alike", Due.told("gt0303500;").bestPump(), 0);
  }

  private static void promise11NoOil() {
    Due.is("no OIL", Due.told("o000;gg0303500;").bestPump(), 0);
    Due.is("one step of OIL", Due.told("o001;gg0303500;").bestPump(), 30);
  }

  private static void promise12FirstAndLastHour() {
    Due.is("HOUR 0", Due.told("gg0202511;gg0253000;").bestHour(0), 0);
    Due.is("HOUR 11", Due.told("gg0202511;gg0253000;").bestHour(1), 11);
    Due.is("HOUR 11 behind HOUR 10", Due.told("gg0253000;gg0202510;").bestHour(0), 11);
    Due.is("HOUR 1 behind HOUR 0", Due.told("gg0253000;gg0202500;").bestHour(0), 1);
    Due.is("alone", Due.told("gg0253011;").bestHour(0), 0);
  }

  private static void promise12AlikeTheFirst() {
    // Behind the other from HOUR 6 on; ahead of him as good as never.
    Due.is("6 to 11 alike", Due.told("gg0253000;gg0202505;").bestHour(0), 6);
    // By numbers behind him in HOUR 5, too.
    Due.is("5 to 11 alike", Due.told("gg0202505;gg0253000;").bestHour(1), 5);
  }

  private static void promise12SeventhGoer() {
    LightAsFarAsThePump x = Due.told("gg0202507;" + "gl0202000;".repeat(5) + "gg0253000;");
    Due.is("bestHour(6)", x.bestHour(6), 7);
    Due.is("bestHour(7)", x.bestHour(7), -1);
    Due.is("bestHour(-1)", x.bestHour(-1), -1);
    Due.is("HOUR stays", x.goer(6, 4), 0);
  }

  private static void promise13AloneAndSeventh() {
    Due.is("alone all COST is his", Due.told("gg0001000;").without(0), 30);
    LightAsFarAsThePump x = Due.told("gg0202500;" + "gl0202000;".repeat(5) + "gg0203011;");
    // The seventh fetches it from 25; without the first it stands where he is.
    Due.is("without(6)", x.without(6), 15);
    Due.is("without(0)", x.without(0), 15);
    Due.is("without(1)", x.without(1), 0);
    Due.is("without(7)", x.without(7), NOBODY);
    Due.is("without(-1)", x.without(-1), NOBODY);
    Due.is("below 0", Due.told("gg0203000;gg0303501;").without(0), -15);
    Due.is("0", Due.told("gg0203000;gg0303501;").without(1), 0);
  }

  /** With each of seven at home the others take what they take where he was never told. */
  private static void promise13TheOthersAsTheyAre() {
    String[][] sevens = {
      {"gg0203501;", "gd3351002;", "gm0300503;", "gc4123804;", "gt0250105;", "gl0020506;", "gg0030207;"},
      {"gd9203011;", "gd0232510;", "gc9352109;", "gg1222308;", "gm2231907;", "gt3182406;", "gd5203305;"},
      {"gg0202504;", "gg0253002;", "gg0303506;", "gd2201501;", "gc8310405;", "gm0101003;", "gd1202800;"}};
    for (String[] seven : sevens) {
      LightAsFarAsThePump x = Due.told(String.join("", seven));
      for (int home = 0; home < 7; home++) {
        StringBuilder others = new StringBuilder();
        for (int i = 0; i < 7; i++) others.append(i == home ? "" : seven[i]);
        Due.is("without(" + home + ")", x.without(home), x.sums(0) - Due.told(others.toString()).sums(0));
      }
    }
  }

  private static void promise14FirstAndLastCell() {
    LightAsFarAsThePump x = Due.told("p00;gm0390000;");
    Due.is("second(39)", x.second(39), 234);
    Due.is("second(38)", x.second(38), 228);
    Due.is("second(1)", x.second(1), 6);
    Due.is("second(0)", x.second(0), 0);
    Due.is("second(40)", x.second(40), NOBODY);
    Due.is("second(-1)", x.second(-1), NOBODY);
  }

  private static void promise14NearerByOne() {
    LightAsFarAsThePump x = Due.told("p17;gg0202000;");
    Due.is("2 off, the first 3", x.second(22), 3);
    Due.is("3 off, alike", x.second(23), 0);
    Due.is("4 off", x.second(24), 0);
    Due.is("2 off on the side of the first", x.second(18), 3);
    Due.is("where he is", x.second(20), 9);
  }

  private static void promise14AlikeTheFirst() {
    // If he took the second one, the next would have none where he is.
    Due.is("on the left", Due.told("p18;gg0201800;gg0222201;").second(22), 12);
    Due.is("on the right", Due.told("p22;gg0202200;gg0181801;").second(18), 12);
    Due.is("both on the PUMP", Due.told("gg0202500;gg0203001;").second(20), 15);
  }

  private static void promise14HowFarHeFetches() {
    LightAsFarAsThePump goer = Due.told("p00;gg0200500;");
    int[][] due = {{13, 0}, {14, 27}, {26, 27}, {27, 0}};
    for (int[] d : due) Due.is("second(" + d[0] + ")", goer.second(d[0]), d[1]);
    LightAsFarAsThePump drunk = Due.told("p00;gd0201500;");
    int[][] due2 = {{19, 0}, {20, 5}, {21, 0}};
    for (int[] d : due2) Due.is("DRUNK second(" + d[0] + ")", drunk.second(d[0]), d[1]);
    // A CAREFUL one with FIGURE 9: 15 off, then with light to TO and back to the PUMP.
    LightAsFarAsThePump careful = Due.told("p00;gc9202500;");
    int[][] due3 = {{4, 0}, {5, 5 * 4 - 15 * 4}, {20, 20}, {35, 5 * 4 - 15 * 4}, {36, 0}};
    for (int[] d : due3) Due.is("CAREFUL second(" + d[0] + ")", careful.second(d[0]), d[1]);
  }

  private static void promise14OilOfBoth() {
    Due.is("no OIL in either", Due.told("p00;o000;gg0202500;").second(20), 0);
    Due.is("one step each", Due.told("p00;o001;gg0202500;").second(20), 3);
    // The nearer one has none left: he takes the other, 6 off; 7 off he has none.
    Due.is("the other one, 6 off", Due.told("o005;gg0202500;gg0263101;").second(32), 3 * (5 - 6));
    Due.is("the other one, 7 off", Due.told("o005;gg0202500;gg0263101;").second(33), 0);
    // The second one's OIL is gone: 20 steps of the THIEF, 21 leave one.
    Due.is("none left in the second", Due.told("p00;o020;gt0203000;gg0202501;").second(20), 0);
    Due.is("one left in the second", Due.told("p00;o021;gt0203000;gg0202501;").second(20), 3);
  }

  private static void promise14WhereItStandsThen() {
    // Then the next has it where he is, or has it not: a GOER brings it to 25, a DRUNK 2 short of that.
    String[] first = {"gg0202500;", "gd2202500;", "gc0202500;", "gt0202500;", "gl0202500;"};
    int[] stands = {25, 23, 0, 20, 20};
    for (int i = 0; i < first.length; i++)
      for (int from = 20; from <= 25; from++) {
        LightAsFarAsThePump x = Due.told("p00;" + first[i] + "gd0" + from + "3011;");
        // Only a DRUNK on its CELL has it; the COST of the first alone is taken off.
        int firstSaves = Due.told("p00;" + first[i]).second(20);
        Due.is(first[i] + " then at " + from, x.second(20) - firstSaves, stands[i] == from ? 30 - from : 0);
      }
  }

  private static void promise15FirstAndLastCell() {
    Due.is("the last CELL", Due.told("p00;gd0393000;").bestSecond(), 39);
    Due.is("the last but one", Due.told("p00;gd0383000;").bestSecond(), 38);
    Due.is("the first but one", Due.told("gd0011000;").bestSecond(), 1);
    Due.is("the first CELL", Due.told("gd0001000;gd0101500;gd0152000;").bestSecond(), 0);
  }

  private static void promise15AlikeTheLeast() {
    Due.is("10 and 30 alike", Due.told("gd0101500;gd0303500;").bestSecond(), 10);
    Due.is("no OIL", Due.told("o000;gg0303500;").bestSecond(), 0);
    // He need not go at all: a second LAMP within 6 CELLS of him, but not where he is, does harm.
    LightAsFarAsThePump harm = Due.told("p39;gg0060600;");
    int[][] due = {{0, -18}, {5, -3}, {6, 0}, {7, -3}, {12, -18}, {13, 0}, {39, 0}};
    for (int[] d : due) Due.is("second(" + d[0] + ")", harm.second(d[0]), d[1]);
    Due.is("harm on all CELLS below it", harm.bestSecond(), 6);
  }

  private static void netsAre(String text, int... due) {
    LightAsFarAsThePump x = Due.told(text);
    for (int goer = 0; goer < due.length; goer++) Due.is("net(" + goer + ") of " + text, x.net(goer), due[goer]);
    Due.is("net of nobody", x.net(due.length), NOBODY);
    Due.is("net(-1)", x.net(-1), NOBODY);
  }

  private static void promise16NoneAtLeast() {
    netsAre("gg0202400;gg0222201;", 0, 0);
    netsAre("gg0202300;gg0222201;", 0, 0);
    netsAre("gg0203000;gg0303001;", 0, 0);
    netsAre("gg0202000;gg0000001;", 0, 0);
  }

  private static void promise16OneFartherOneNearer() {
    netsAre("gg0202500;gg0222201;", -1, 1);
    netsAre("gg0202600;gg0222201;", -2, 2);
    netsAre("gg0202100;gg0202001;", -1, 1);
    netsAre("gg0201900;gg0202001;", -1, 1);
    netsAre("gg0201500;gg0181801;", -1, 1);
    netsAre("gg0201600;gg0181801;", 0, 0);
  }

  private static void promise16AsFarAsCanBe() {
    netsAre("p00;gg0003900;gg0000001;", -39, 39);
    netsAre("p39;gg0390000;gg0393901;", -39, 39);
  }

  private static void promise16WhoOwes() {
    // Without OIL nobody has it; he who is too far off has it not; the last one has nobody behind him.
    netsAre("o000;gg0202500;gg0202001;", 0, 0);
    netsAre("gd0212500;gg0202001;", 0, 0);
    netsAre("gg0202500;", 0);
    netsAre("gg0253000;gg0202511;", -10, 10);
    // The next one is the next by HOURS, whether he has it or not; one behind him is owed nothing.
    netsAre("gg0203005;gd0202011;gd0202006;", -10, 0, 10);
    netsAre("gg0203505;gg0202006;", -15, 15);
    // Ahead of the first who goes nobody owes.
    netsAre("gg0202511;gd0202000;", 0, 0);
    // One step of OIL is enough to owe: he had it.
    netsAre("o001;gg0203005;gg0202006;", -10, 10);
  }

  private static void promise16FirstAndSeventhGoer() {
    netsAre("gg0202511;" + "gl0000000;".repeat(5) + "gd0202011;", -5, 0, 0, 0, 0, 0, 5);
    netsAre("gd0202011;" + "gl0000000;".repeat(5) + "gg0202500;", 5, 0, 0, 0, 0, 0, -5);
  }

  private static void paymentsAre(String text, int due, int... nets) {
    netsAre(text, nets);
    Due.is("payments of " + text, Due.told(text).payments(), due);
  }

  private static void promise17NoneToPay() {
    Due.is("nobody", new LightAsFarAsThePump().payments(), 0);
    paymentsAre("gg0202500;", 0, 0);
    paymentsAre("gl0202000;".repeat(7), 0, 0, 0, 0, 0, 0, 0, 0);
    // What he is owed he owes as well: one payment past him.
    paymentsAre("gg0202500;gg0202501;gd0202002;", 1, -5, 0, 5);
  }

  private static void promise17SixPayments() {
    // MIDWIVES who all start on the PUMP and leave it farther and farther off: no fewer of them come to 0.
    paymentsAre("p00;o200;gm0000100;gm0000301;gm0000702;gm0001503;gm0003104;gm0003905;gd0000006;", 6,
      -1, -2, -4, -8, -16, -8, 39);
    paymentsAre("gg0202500;gd0202001;", 1, -5, 5);
  }

  private static void promise17GroupsThatPayApart() {
    paymentsAre("gg0202500;gd0202001;gg0252802;gd0202003;gg0282204;gd0202005;", 3, -5, 5, -8, 8, -2, 2);
    // The greatest to the greatest would take four.
    paymentsAre("gg0202200;gg0202501;gd0202002;gg0252403;gd0202004;", 3, -2, -3, 5, -4, 4);
  }

  private static void promise18EndsOfTheAlley() {
    LightAsFarAsThePump x = Due.told("p00;gg0003905;");
    Due.is("near(0, 0)", x.near(0, 0), 0);
    Due.is("near(0, 39)", x.near(0, 39), 39);
    Due.is("near(5, 0)", x.near(5, 0), 39);
    Due.is("near(5, 39)", x.near(5, 39), 0);
    Due.is("near(5, 40)", x.near(5, 40), -1);
    Due.is("near(5, -1)", x.near(5, -1), -1);
  }

  private static void promise18FirstAndLastHour() {
    LightAsFarAsThePump x = Due.told("gg0202500;gg0252811;");
    Due.is("near(0, 20)", x.near(0, 20), 5);
    Due.is("near(10, 20)", x.near(10, 20), 5);
    Due.is("near(11, 20)", x.near(11, 20), 8);
    Due.is("near(-1, 20)", x.near(-1, 20), -4);
    Due.is("near(12, 20)", x.near(12, 20), -6);
  }

  private static void promise19EndsOfTheAlley() {
    LightAsFarAsThePump x = Due.told("gg0200001;gg0003911;");
    Due.is("midwife(0)", x.midwife(0), 11);
    Due.is("midwife(39)", x.midwife(39), 1);
    Due.is("midwife(40)", x.midwife(40), -1);
    Due.is("midwife(-1)", x.midwife(-1), -1);
    // 20 from 20 at HOUR 1, 19 at HOUR 11.
    Due.is("midwife(20)", x.midwife(20), 1);
  }

  private static void promise19AlikeTheFirst() {
    for (int cell = 0; cell < 40; cell++) Due.is("nobody, midwife(" + cell + ")", new LightAsFarAsThePump().midwife(cell), 0);
    // 10 to one side, then 10 to the other.
    LightAsFarAsThePump x = Due.told("gg0203003;gg0301007;");
    Due.is("alike on both sides", x.midwife(20), 3);
    Due.is("the later one", x.midwife(21), 7);
    Due.is("the earlier one", x.midwife(19), 3);
  }

  private static void promise20ThreeAndFourOff() {
    // A DRUNK who is not on 20 leaves the LAMP there.
    int[][] cells = {{16, 4095}, {17, 0}, {19, 0}, {21, 0}, {23, 0}, {24, 4095}};
    for (int[] cell : cells) {
      Due.is("FROM " + cell[0], Due.told("gd0" + cell[0] + "0000;").watch(), cell[1]);
      Due.is("TO " + cell[0], Due.told("gd000" + cell[0] + "00;").watch(), cell[1]);
    }
    Due.is("on the LAMP's CELL", Due.told("gl0202000;").watch(), 0);
    Due.is("LAMP on 0, 3 off", Due.told("p00;gd0033900;").watch(), 0);
    Due.is("LAMP on 0, 4 off", Due.told("p00;gd0043900;").watch(), 4095);
    Due.is("LAMP on 39, 3 off", Due.told("p39;gd0003600;").watch(), 0);
    Due.is("LAMP on 39, 4 off", Due.told("p39;gd0003500;").watch(), 4095);
  }

  private static void promise20FirstAndLastHour() {
    // Until he fetches it the LAMP is 5 off; then it is where he goes.
    Due.is("all but HOUR 11", Due.told("gg0253011;").watch(), 2047);
    Due.is("all but from HOUR 1 on", Due.told("gg0253001;").watch(), 1);
    Due.is("none", Due.told("gg0253000;").watch(), 0);
    // The DRUNK leaves it 9 short of TO, farther than 3 from both.
    Due.is("HOUR 11 alone", Due.told("gd9203511;").watch(), 2048);
    Due.is("from HOUR 0 on", Due.told("gd9203500;").watch(), 4095);
  }

  private static void promise20AnybodyOfSeven() {
    String far = "gd0000000;";
    Due.is("seven far off", Due.told(far.repeat(7)).watch(), 4095);
    Due.is("the seventh is near", Due.told(far.repeat(6) + "gd0001700;").watch(), 0);
    Due.is("the first is near", Due.told("gd0230000;" + far.repeat(6)).watch(), 0);
  }

  private static void rowIs(LightAsFarAsThePump x, int... numbers) {
    x.clear();
    for (int i = 0; i < numbers.length; i++) Due.is("row", x.row(numbers[i]), i + 1);
  }

  private static int[] twelve(int number, int last) {
    int[] all = new int[12];
    for (int i = 0; i < 12; i++) all[i] = i < 11 ? number : last;
    return all;
  }

  private static void promise21EmptyRow() {
    LightAsFarAsThePump x = Due.told("gg0202500;gl0202000;gl0202000;gl0202000;gl0202000;gl0202000;gl0202000;");
    for (int goer = 0; goer < 7; goer++) {
      Due.is("empty ROW, KINDS", x.whoHad(goer, 0), 63);
      Due.is("empty ROW, FIGURES", x.whoHad(goer, 1), 1023);
    }
    Due.is("whoHad(7, 0)", x.whoHad(7, 0), -1);
    Due.is("it is empty still", x.count(5), 0);
  }

  private static void promise21FullRow() {
    LightAsFarAsThePump x = Due.told("gg0202511;");
    rowIs(x, twelve(20, 25));
    Due.is("full ROW, KINDS", x.whoHad(0, 0), 1 | 2 | 4);
    Due.is("full ROW, FIGURES", x.whoHad(0, 1), 1023);
    Due.is("it is full still", x.count(5), 12);
    rowIs(x, twelve(20, 20));
    Due.is("full ROW, the LAMP not moved", x.whoHad(0, 0), 8 | 16 | 32);
    rowIs(x, twelve(20, 24));
    Due.is("full ROW, all but the last so", x.whoHad(0, 0), 0);
    x.clear();
    for (int i = 0; i < 11; i++) x.row(20);
    Due.is("one short of full", x.whoHad(0, 0), 63);
  }

  private static void promise21KindByKind() {
    LightAsFarAsThePump x = Due.told("gg0202500;gg9262701;");
    int[][] due = {{27, 1 | 4}, {25, 2 | 32}, {20, 8}, {26, 16}, {28, 0}, {24, 0}};
    for (int[] d : due) {
      rowIs(x, 25, d[0]);
      Due.is("KINDS that leave it on " + d[0], x.whoHad(1, 0), d[1]);
    }
  }

  private static void promise21FigureByFigure() {
    LightAsFarAsThePump drunk = Due.told("gd4202900;");
    for (int figure = 0; figure < 10; figure++) {
      rowIs(drunk, 29 - figure);
      Due.is("FIGURE " + figure + " of a DRUNK", drunk.whoHad(0, 1), 1 << figure);
    }
    rowIs(drunk, 30);
    Due.is("beyond FIGURE 0", drunk.whoHad(0, 1), 0);
    rowIs(drunk, 19);
    Due.is("beyond FIGURE 9", drunk.whoHad(0, 1), 0);
    // 6 and FIGURE off: one who has it brings it to the PUMP.
    for (int figure = 0; figure < 10; figure++) {
      LightAsFarAsThePump careful = Due.told("gg0202400;gc0" + (30 + figure) + "3001;");
      rowIs(careful, 24, 20);
      Due.is("FIGURES of a CAREFUL one from " + figure + " on", careful.whoHad(1, 1), 1023 & -(1 << figure));
      rowIs(careful, 24, 24);
      Due.is("FIGURES of a CAREFUL one below " + figure, careful.whoHad(1, 1), (1 << figure) - 1);
    }
  }

  private static void promise21NumbersThatAreNoCell() {
    LightAsFarAsThePump x = Due.told("p39;gg0390000;");
    for (int number : new int[] {40, 99}) {
      rowIs(x, number);
      Due.is("no CELL " + number, x.whoHad(0, 0), 0);
    }
    rowIs(x, 0, 0);
    Due.is("CELL 0", x.whoHad(0, 0), 1 | 2 | 4);
    rowIs(x, 39, 39);
    Due.is("CELL 39", x.whoHad(0, 0), 8 | 16 | 32);
  }

  private static void promise22NoneAndAll() {
    Due.is("nobody", new LightAsFarAsThePump().leastOil(), 0);
    Due.is("one step", Due.told("gg0202100;").leastOil(), 1);
    String five = "p00;gg0003900;gg0390000;gg0003900;gg0390000;gg0003900;";
    Due.is("199 steps", Due.told(five + "gg0393500;").leastOil(), 199);
    Due.is("200 steps", Due.told(five + "gg0393400;").leastOil(), 200);
    Due.is("201 steps", Due.told(five + "gg0393300;").leastOil(), 200);
    for (int oil : new int[] {0, 1, 199, 200}) {
      LightAsFarAsThePump x = Due.told(five);
      x.set(1, oil);
      Due.is("whatever OIL there is", x.leastOil(), 195);
      Due.is("it stays", x.count(2), oil);
    }
  }

  private static void promise22TheLeastOfSeveral() {
    // With 7 COST is 20 as with 200; with 8 none is left for 1 and he goes 2 steps: 16.
    LightAsFarAsThePump x = Due.told("gc0221600;gc0232100;");
    int[][] due = {{6, 24}, {7, 20}, {8, 16}, {9, 24}, {10, 20}, {200, 20}};
    for (int[] d : due) {
      x.set(1, d[0]);
      Due.is("COST with OIL " + d[0], x.sums(0), d[1]);
    }
    Due.is("the least of several", x.leastOil(), 7);
  }
}
