/** Promises 10 to 22: best orders, debts, a second lamp, the pump, the midwife, thieves. Worked by hand. */
public final class WhatIfTest {
  public static void main(String[] args) {
    promise10Best();
    promise10Cockcrow();
    promise10Refusals();
    promise11BestPump();
    promise12BestHour();
    promise13Without();
    promise14Second();
    promise15BestSecond();
    promise16Net();
    promise17Payments();
    promise18Near();
    promise19Midwife();
    promise20Watch();
    promise21WhoHad();
    promise22LeastOil();
    Due.end("WhatIfTest");
  }

  private static void orderIs(LightAsFarAsThePump x, int what, int cost, int... goers) {
    Due.is("best(" + what + ", -1)", x.best(what, -1), cost);
    for (int i = 0; i < goers.length; i++) Due.is("best(" + what + ", " + i + ")", x.best(what, i), goers[i]);
    Due.is("best(" + what + ") no such place", x.best(what, goers.length), -1);
  }

  private static void promise10Best() {
    // He at 25 fetches it 5 CELLS off; behind the other it stands there for nothing.
    orderIs(Due.told("gg0253000;gg0202500;"), 0, 0, 1, 0);
    // HOURS no matter.
    orderIs(Due.told("gg0253000;gg0202511;"), 0, 0, 1, 0);
    // Alike: the first by GOERS.
    orderIs(Due.told("gg0202000;gg0202000;gg0202000;"), 0, 0, 0, 1, 2);
    LightAsFarAsThePump six = Due.told("gl0202000;gl0202000;gl0202000;gl0202000;gg0253000;gg0202500;");
    orderIs(six, 0, 0, 0, 1, 2, 3, 5, 4);
    Due.is("HOURS stay", six.goer(4, 4), 0);
    orderIs(new LightAsFarAsThePump(), 0, 0);
    orderIs(Due.told("gg0000500;"), 0, 15, 0);
    // All six turned round: each has it for nothing only behind the one that is told behind him.
    orderIs(Due.told("gg0151000;gg0201500;gg0252000;gg0302500;gg0353000;gg0393500;p39;"), 0, 0, 5, 4, 3, 2, 1, 0);
  }

  private static void promise10Cockcrow() {
    // With the first ORDER the LAMP is at 30: but it shall be at the PUMP.
    LightAsFarAsThePump x = Due.told("gc0303000;gg0203000;");
    orderIs(x, 0, 0, 0, 1);
    orderIs(x, 1, 0, 1, 0);
    LightAsFarAsThePump back = Due.told("gg0202500;gc0252000;gg0253000;");
    orderIs(back, 0, 15, 0, 1, 2);
    // Behind 0 and 2 it stands at 30: 1 goes 5 steps to it in the dark, each at 4.
    orderIs(back, 1, 20, 0, 2, 1);
    LightAsFarAsThePump away = Due.told("gg0202500;");
    Due.is("none", away.best(1, -1), -9);
    Due.is("none, 0", away.best(1, 0), -9);
    Due.is("no such place goes ahead of none", away.best(1, 1), -1);
    orderIs(away, 0, 0, 0);
    orderIs(new LightAsFarAsThePump(), 1, 0);
  }

  private static void promise10Refusals() {
    LightAsFarAsThePump x = Due.told("gg0202000;gg0202000;gg0202000;gg0202000;gg0202000;gg0202000;");
    Due.is("six", x.best(0, 5), 5);
    Due.is("six, -2", x.best(0, -2), -4);
    Due.is("six, 6", x.best(0, 6), -1);
    Due.is("six, what 2", x.best(2, -2), -2);
    Due.is("six, what -1", x.best(-1, 0), -2);
    Due.is("a seventh", Due.night(x, "gg0202000;"), 1);
    Due.is("seven", x.best(0, 0), -3);
    Due.is("seven, -2", x.best(1, -2), -3);
    Due.is("seven, 9", x.best(1, 9), -3);
    Due.is("seven, what 2", x.best(2, 0), -2);
    Due.is("count(13)", x.count(13), 3);
    Due.is("count(12)", x.count(12), 3);
  }

  private static void promise11BestPump() {
    LightAsFarAsThePump x = Due.told("gg0303500;");
    Due.is("bestPump", x.bestPump(), 30);
    Due.is("PUMP stays", x.count(1), 20);
    // Another question asked before changes nothing: the KINDS that it tried are forgotten.
    Due.is("whoHad", x.whoHad(0, 0), 63);
    Due.is("bestPump behind whoHad", x.bestPump(), 30);
    Due.is("of several the least", Due.told("gl0303500;").bestPump(), 0);
    Due.is("nobody", new LightAsFarAsThePump().bestPump(), 0);
    Due.is("the LAMP stands there first, too", Due.told("gd0393000;").bestPump(), 39);
    // He brings it to the PUMP of then, where the MIDWIFE is: were it brought to 20, the best were 13.
    Due.is("where it is brought", Due.told("gc9131000;gm0151500;").bestPump(), 15);
  }

  private static void promise12BestHour() {
    LightAsFarAsThePump x = Due.told("gg0253000;gg0202505;");
    Due.is("bestHour(0)", x.bestHour(0), 6);
    Due.is("HOUR stays", x.goer(0, 4), 0);
    Due.is("bestHour(1)", x.bestHour(1), 0);
    Due.is("bestHour(2)", x.bestHour(2), -1);
    Due.is("bestHour(-1)", x.bestHour(-1), -1);
    LightAsFarAsThePump late = Due.told("gg0253000;gg0202511;");
    // In one HOUR by numbers: 0 goes ahead of 1 in HOUR 11 too, so no HOUR helps; 1 in HOUR 0 goes behind him all the same.
    Due.is("bestHour(0) alike", late.bestHour(0), 0);
    LightAsFarAsThePump other = Due.told("gg0202511;gg0253000;");
    Due.is("bestHour(0) in one HOUR", other.bestHour(0), 0);
    Due.is("bestHour(1) the last", other.bestHour(1), 11);
    Due.is("count(11)", x.count(11), 2);
  }

  private static void promise13Without() {
    LightAsFarAsThePump x = Due.told("gg0203000;gg0303501;");
    Due.is("below 0", x.without(0), -15);
    Due.is("without(1)", x.without(1), 0);
    Due.is("he is still there", x.count(0), 2);
    Due.is("COST stays", x.sums(0), 0);
    Due.is("without(2)", x.without(2), 1000000001);
    Due.is("without(-1)", x.without(-1), 1000000001);
    Due.is("count(11)", x.count(11), 2);
    LightAsFarAsThePump three = Due.told("gg0202000;gg0000500;gm0202100;");
    Due.is("the middle one", three.without(1), 15);
    Due.is("the last one", three.without(2), 0);
    Due.is("of whom nothing changes", three.goer(2, 0), 2);
    // Those behind him keep their HOURS: 2 goes ahead of 1, and 1 has it for nothing.
    LightAsFarAsThePump hours = Due.told("gg0000008;gg0253007;gg0202503;");
    Due.is("HOURS of those behind", hours.without(0), 0);
    Due.is("COST of them", hours.without(2), -15);
    LightAsFarAsThePump late = Due.told("gg0000511;gg0253007;gg0202503;");
    Due.is("HOURS of those behind a late one", late.without(0), 15);
  }

  private static void promise14Second() {
    LightAsFarAsThePump x = Due.told("gg0000500;");
    Due.is("second(0)", x.second(0), 15);
    Due.is("second(6)", x.second(6), -3);
    Due.is("second(7)", x.second(7), 0);
    Due.is("second(39)", x.second(39), 0);
    Due.is("second(40)", x.second(40), 1000000001);
    Due.is("second(-1)", x.second(-1), 1000000001);
    Due.is("count(11)", x.count(11), 2);
    // Alike: the first; the second is left for the other one.
    Due.is("alike", Due.told("p14;gg0201000;gg0263001;").second(26), 12);
    // The nearer one has no OIL left: so the other one.
    Due.is("that has OIL", Due.told("o005;gg0202500;gg0253001;").second(28), 6);
    // As much OIL: 5 for him at 0, too.
    Due.is("as much OIL", Due.told("o005;gg0202500;gg0001001;").second(0), 15);
    Due.is("no OIL", Due.told("o000;gg0000500;").second(0), 0);
    // Where one brings the second LAMP: the CAREFUL one to the PUMP.
    Due.is("to the PUMP", Due.told("gg0203900;gc0000501;gg0202502;").second(0), 20 + 15);
    Due.is("sums are of one LAMP", x.sums(0), 15);
  }

  private static void promise15BestSecond() {
    Due.is("bestSecond", Due.told("gg0000500;gg0050001;").bestSecond(), 0);
    Due.is("of several the least", Due.told("gg0202500;").bestSecond(), 0);
    Due.is("where he is", Due.told("gg0343900;").bestSecond(), 34);
    Due.is("nobody", new LightAsFarAsThePump().bestSecond(), 0);
    Due.is("six", Due.told(SIX).bestSecond(), 30);
    // A second LAMP near him does harm on most CELLS: best is one too far off.
    Due.is("below 0 elsewhere", Due.told("gg0060700;p39;").bestSecond(), 6);
  }

  static final String SIX = "gg0203501;gd3351002;gm0300503;gc4123804;gt0250105;gl0020506;";

  private static void promise16Net() {
    LightAsFarAsThePump x = Due.told(SIX);
    int[] due = {0, -7, 7, 0, -5, 5};
    for (int goer = 0; goer < 6; goer++) Due.is("net(" + goer + ")", x.net(goer), due[goer]);
    Due.is("net(6)", x.net(6), 1000000001);
    Due.is("net(-1)", x.net(-1), 1000000001);
    Due.is("count(11)", x.count(11), 2);
    // Who had it not owes nothing, though it stands far off; nearer than the PUMP is nothing, too.
    LightAsFarAsThePump far = Due.told("gg0202600;gg0002001;gg0002002;gg0303002;");
    int[] owed = {-6, 6, 0, 0};
    for (int goer = 0; goer < 4; goer++) Due.is("far net(" + goer + ")", far.net(goer), owed[goer]);
    // Owed less what he owes: 1 is owed 5 and owes 10.
    LightAsFarAsThePump both = Due.told("gg0202500;gg0203001;gg0102002;");
    Due.is("both net(0)", both.net(0), -5);
    Due.is("both net(1)", both.net(1), 5 - 10);
    Due.is("both net(2)", both.net(2), 10);
  }

  private static void promise17Payments() {
    Due.is("six", Due.told(SIX).payments(), 2);
    Due.is("nobody", new LightAsFarAsThePump().payments(), 0);
    Due.is("no debts", Due.told("gg0202000;gg0202000;").payments(), 0);
    Due.is("one debt", Due.told("gg0202500;gg0203001;").payments(), 1);
    // -5, -5, 10: two payments.
    Due.is("two pay one", Due.told("gg0202500;gg0203001;gg0102002;").payments(), 2);
    // 0 owes 1 ten, 1 owes 2 ten, 2 owes 3 ten: 0 pays 3.
    Due.is("one for all", Due.told("gg0203000;gm0201001;gm0203002;gg0201003;").payments(), 1);
  }

  private static void promise18Near() {
    LightAsFarAsThePump x = Due.told(SIX);
    Due.is("near(0, 20)", x.near(0, 20), 0);
    Due.is("near(1, 0)", x.near(1, 0), 35);
    Due.is("near(3, 39)", x.near(3, 39), 34);
    Due.is("near(11, 30)", x.near(11, 30), 5);
    Due.is("near(-1, 40)", x.near(-1, 40), -4);
    Due.is("near(12, -1)", x.near(12, -1), -6);
    Due.is("near(0, 40)", x.near(0, 40), -1);
    Due.is("near(11, -1)", x.near(11, -1), -1);
    Due.is("count(11)", x.count(11), 2);
    Due.is("count(14)", x.count(14), 1);
    Due.is("count(16)", x.count(16), 1);
  }

  private static void promise19Midwife() {
    LightAsFarAsThePump x = Due.told(SIX);
    Due.is("midwife(20), of several the first", x.midwife(20), 1);
    Due.is("midwife(39)", x.midwife(39), 3);
    Due.is("midwife(40)", x.midwife(40), -1);
    Due.is("midwife(-1)", x.midwife(-1), -1);
    Due.is("count(11)", x.count(11), 2);
    Due.is("nobody", new LightAsFarAsThePump().midwife(20), 0);
    Due.is("the last HOUR", Due.told("gg0203011;").midwife(0), 11);
  }

  private static void promise20Watch() {
    Due.is("nobody", new LightAsFarAsThePump().watch(), 4095);
    Due.is("four off FROM", Due.told("p26;gg0303505;").watch(), 31);
    Due.is("three off FROM", Due.told("p27;gg0303505;").watch(), 0);
    Due.is("three off TO", Due.told("p03;gg0300005;").watch(), 0);
    Due.is("four off TO", Due.told("p04;gg0300005;").watch(), 4095);
    Due.is("of anybody", Due.told("p04;gg0300005;gg0010105;").watch(), 0);
    Due.is("too far to fetch it", Due.told("p20;gg0303505;").watch(), 4095);
    Due.is("until it is fetched", Due.told("p20;gm0303505;").watch(), 31);
    Due.is("bit 11", Due.told("p10;gd9103911;").watch(), 2048);
    Due.is("HOURS between", Due.told("p10;gd9103903;gm0151508;").watch(), 8 | 16 | 32 | 64 | 128);
  }

  private static void rowIs(LightAsFarAsThePump x, int... numbers) {
    x.clear();
    for (int i = 0; i < numbers.length; i++) Due.is("row", x.row(numbers[i]), i + 1);
  }

  private static void promise21WhoHad() {
    // g, m go 20 to 30; d is 4 short of it; c brings it back; t brings it to FROM, l leaves it.
    LightAsFarAsThePump x = Due.told("gg4203001;");
    Due.is("no ROW, KINDS", x.whoHad(0, 0), 63);
    Due.is("no ROW, FIGURES", x.whoHad(0, 1), 1023);
    rowIs(x, 20, 30);
    Due.is("KINDS at 30", x.whoHad(0, 0), 1 | 4);
    Due.is("the ROW stays", x.count(5), 2);
    Due.is("FIGURES at 30", x.whoHad(0, 1), 1023);
    rowIs(x, 20, 26);
    Due.is("KINDS at 26", x.whoHad(0, 0), 2);
    Due.is("FIGURES at 26", x.whoHad(0, 1), 0);
    rowIs(x, 20, 20, 20);
    Due.is("KINDS at 20", x.whoHad(0, 0), 8 | 16 | 32);
    rowIs(x, 20, 99);
    Due.is("KINDS at 99", x.whoHad(0, 0), 0);
    rowIs(x, 30);
    Due.is("KINDS not yet", x.whoHad(0, 0), 0);
    Due.is("KIND stays", x.goer(0, 0), 0);
    Due.is("FIGURE stays", x.goer(0, 1), 4);
    LightAsFarAsThePump drunk = Due.told("gd4202701;");
    rowIs(drunk, 20, 20);
    Due.is("FIGURES of a DRUNK at 20", drunk.whoHad(0, 1), 128 | 256 | 512);
    rowIs(drunk, 20, 24);
    Due.is("FIGURES of a DRUNK at 24", drunk.whoHad(0, 1), 8);
    LightAsFarAsThePump careful = Due.told("gc0283000;gd0202511;");
    rowIs(careful, 20, 20, 20, 20, 20, 20, 20, 20, 20, 20, 20, 25);
    Due.is("FIGURES of a CAREFUL one", careful.whoHad(0, 1), 1023);
    Due.is("whoHad(2, 2)", careful.whoHad(2, 2), -1);
    Due.is("whoHad(-1, 0)", careful.whoHad(-1, 0), -1);
    Due.is("whoHad(0, 2)", careful.whoHad(0, 2), -2);
    Due.is("whoHad(0, -1)", careful.whoHad(0, -1), -2);
    Due.is("count(11)", careful.count(11), 2);
    Due.is("count(12)", careful.count(12), 2);
  }

  private static void promise22LeastOil() {
    LightAsFarAsThePump x = Due.told("gg0203500;");
    Due.is("leastOil", x.leastOil(), 15);
    Due.is("OIL stays", x.count(2), 100);
    x.set(1, 0);
    Due.is("leastOil with none", x.leastOil(), 15);
    Due.is("nobody", new LightAsFarAsThePump().leastOil(), 0);
    Due.is("no COST", Due.told("gl0203500;").leastOil(), 0);
    Due.is("six", Due.told(SIX).leastOil(), 96);
    Due.is("200", Due.told("p00;gg0003900;gg0390000;gg0003900;gg0390000;gg0003900;gg0390000;").leastOil(), 200);
  }
}
