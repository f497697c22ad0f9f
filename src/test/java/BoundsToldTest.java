import java.util.Arrays;

/** What is told and how a NIGHT goes, promises 1 to 9: each bound that the document names, on it and one beyond. */
public final class BoundsToldTest {
  private static final String TWO = "gg0000003;gg0000007;";

  public static void main(String[] args) {
    promise1NobodyThere();
    promise2EveryLetterThereIs();
    promise2NinetySixLetters();
    promise2RoomAgainBehindANight();
    promise3NoLetter();
    promise3EveryLetterAtEveryPlace();
    promise3EndWhereSomethingLacks();
    promise3FirstAndLastPlace();
    promise3LettersGoAheadOfStatements();
    promise3FewestAndMost();
    promise3LeastAndGreatestNumbers();
    promise3GoersThatAreThere();
    promise3OneTwice();
    promise3RoomForSeven();
    promise3AheadInTheText();
    promise3FirstOfSeveralFaults();
    promise3WithAFaultNothing();
    promise3LastTold();
    promise4FirstAndSeventhGoer();
    promise4HowFarHeFetches();
    promise4WhatADarkStepCosts();
    promise5LeastAndGreatestHour();
    promise6LeastAndGreatest();
    promise7HowFarHeFetches();
    promise7NoOilAndOneStepOfIt();
    promise7ShortOfTo();
    promise7AlreadyThere();
    promise7EndsOfTheAlley();
    promise7OilJustEnough();
    promise7OilOnTheWayBack();
    promise7NoneLeftForTheNext();
    promise7OneHourByNumbers();
    promise7GreatestSums();
    promise8FirstAndSeventhGoer();
    promise8WithoutTheLamp();
    promise9FirstAndLastHour();
    Due.end("BoundsToldTest");
  }

  private static void sumsAre(String text, int... due) {
    LightAsFarAsThePump x = Due.told(text);
    for (int what = 0; what < due.length; what++) Due.is("sums(" + what + ") of " + text, x.sums(what), due[what]);
  }

  private static String goers(int n) {
    StringBuilder text = new StringBuilder();
    for (int i = 0; i < n; i++) text.append("gg0000000;");
    return text.toString();
  }

  private static LightAsFarAsThePump withGoers(int n) {
    return n == 0 ? new LightAsFarAsThePump() : Due.told(goers(n));
  }

  private static int[] allTold(LightAsFarAsThePump x) {
    int goers = x.count(0);
    int[] all = new int[4 + 5 * goers];
    for (int what = 0; what < 4; what++) all[what] = x.count(what);
    for (int i = 0; i < 5 * goers; i++) all[4 + i] = x.goer(i / 5, i % 5);
    return all;
  }

  private static void promise1NobodyThere() {
    LightAsFarAsThePump x = new LightAsFarAsThePump();
    for (int hour = 0; hour < 12; hour++) Due.is("nobody, lamp(" + hour + ")", x.lamp(hour), 20);
    for (int what = 0; what < 2; what++) {
      Due.is("nobody, best COST", x.best(what, -1), 0);
      Due.is("nobody, best place 0", x.best(what, 0), -1);
    }
    for (int cell = 0; cell < 40; cell++) Due.is("nobody, second", x.second(cell), 0);
    Due.is("nobody, bestPump", x.bestPump(), 0);
    Due.is("nobody, bestSecond", x.bestSecond(), 0);
    Due.is("nobody, payments", x.payments(), 0);
    Due.is("nobody, midwife", x.midwife(0), 0);
    Due.is("nobody, watch", x.watch(), 4095);
    Due.is("nobody, leastOil", x.leastOil(), 0);
    Due.is("nobody, judge", x.judge(), -9);
    Due.is("nobody, clear", x.clear(), 0);
    Due.is("nobody, image", x.image(), 0);
  }

  private static void promise2EveryLetterThereIs() {
    for (int c = 0; c <= 255; c++) {
      LightAsFarAsThePump x = new LightAsFarAsThePump();
      Due.is("letter(" + c + ")", x.letter(c), 1);
    }
    LightAsFarAsThePump x = new LightAsFarAsThePump();
    Due.is("letter(-1)", x.letter(-1), -4);
    Due.is("letter(256)", x.letter(256), -6);
    Due.is("none came", x.count(6), 0);
  }

  private static void promise2NinetySixLetters() {
    LightAsFarAsThePump x = new LightAsFarAsThePump();
    for (int i = 1; i <= 95; i++) Due.is("letter " + i, x.letter('d'), i);
    Due.is("the 96th", x.letter(255), 96);
    Due.is("the 97th", x.letter(0), -6);
    Due.is("the 97th below", x.letter(-1), -4);
    Due.is("the 97th above", x.letter(256), -6);
    Due.is("count(6)", x.count(6), 96);
    Due.is("count(14)", x.count(14), 1);
    Due.is("count(16)", x.count(16), 2);
  }

  private static void promise2RoomAgainBehindANight() {
    LightAsFarAsThePump x = new LightAsFarAsThePump();
    String full = "d1;".repeat(32);
    Due.is("96 letters", Due.night(x, full), 32);
    Due.is("96 letters again", Due.night(x, full), 32);
    Due.is("96 letters that are none", Due.night(x, "?".repeat(96)), -1000);
    Due.is("and a first one again", x.letter('d'), 1);
  }

  private static void promise3NoLetter() {
    LightAsFarAsThePump x = new LightAsFarAsThePump();
    Due.is("at least one STATEMENT", x.night(), -1000);
    Due.is("and again", x.night(), -1000);
    Due.is("no letter behind a night", Due.night(x, "d1;"), 1);
    Due.is("they are no more", x.night(), -1000);
  }

  /** What may stand at a place of a STATEMENT: told by the letter that stands there in the sample. */
  private static String mayStand(String statement, int place) {
    if (place == 0) return "gpodxh";
    if (statement.charAt(0) == 'g' && place == 1) return "gdmctl";
    return place == statement.length() - 1 ? ";" : "0123456789";
  }

  private static void promise3EveryLetterAtEveryPlace() {
    String ahead = "d1;";
    for (String statement : new String[] {"gg0000000;", "p00;", "o000;", "d0;", "x01;", "h000;"})
      for (int place = 0; place < statement.length(); place++)
        for (int c = 0; c < 256; c++) {
          String text = ahead + statement.substring(0, place) + (char) c + statement.substring(place + 1);
          int answer = Due.night(new LightAsFarAsThePump(), text);
          int fault = -1000 - 3 - place;
          boolean may = mayStand(statement, place).indexOf(c) >= 0;
          if (may) Due.holds("night of " + text + " has no FAULT there: " + answer, answer != fault);
          else Due.is("night of " + text, answer, fault);
        }
  }

  private static void promise3EndWhereSomethingLacks() {
    for (String statement : new String[] {"gg0000000;", "p00;", "o000;", "d0;", "x01;", "h000;"})
      for (int end = 1; end < statement.length(); end++) {
        Due.is("the end lacks", Due.night(new LightAsFarAsThePump(), statement.substring(0, end)), -1000 - end);
        Due.is("the end lacks behind one", Due.night(new LightAsFarAsThePump(), "d1;" + statement.substring(0, end)), -1003 - end);
      }
  }

  private static void promise3FirstAndLastPlace() {
    String ahead = "d1;".repeat(31);
    LightAsFarAsThePump x = new LightAsFarAsThePump();
    Due.is("place 0", Due.night(x, "?" + ahead), -1000);
    Due.is("place 93", Due.night(x, ahead + "?1;"), -1093);
    Due.is("place 94", Due.night(x, ahead + "d?;"), -1094);
    Due.is("place 95", Due.night(x, ahead + "d1?"), -1095);
    Due.is("the end of 96", Due.night(x, ahead + "o10"), -1096);
    Due.is("the end of 95", Due.night(x, ahead + "d1"), -1095);
    Due.is("STATEMENT at 0", Due.night(x, "p40;" + ahead.substring(0, 90)), -2000);
    Due.is("STATEMENT at 92", Due.night(x, "o100;".repeat(17) + "d1;" + "p00;" + "p40;"), -2092);
  }

  private static void promise3LettersGoAheadOfStatements() {
    LightAsFarAsThePump x = new LightAsFarAsThePump();
    Due.is("a letter behind", Due.night(x, "p40;q"), -1004);
    Due.is("an end behind", Due.night(x, "p40;p4"), -1006);
    Due.is("a ; too many behind", Due.night(x, "x00;o999;;"), -1009);
    Due.is("none behind", Due.night(x, "d0;p40;d0;"), -2003);
  }

  private static void promise3FewestAndMost() {
    LightAsFarAsThePump x = new LightAsFarAsThePump();
    Due.is("one STATEMENT", Due.night(x, "d0;"), 1);
    Due.is("thirty-two", Due.night(x, "d9;".repeat(32)), 32);
    Due.is("all 96 letters of all", Due.night(x, goers(7) + "p00;o000;d0;x01;h000;o200;"), 13);
    Due.is("OIL told last", x.count(2), 200);
  }

  private static void comes(String statement) {
    Due.is("night of " + statement, Due.night(Due.told(TWO), "d1;" + statement), 2);
  }

  private static void isNotAsItMustBe(String statement) {
    LightAsFarAsThePump x = Due.told(TWO);
    Due.is("night of " + statement, Due.night(x, "d1;" + statement), -2003);
    Due.is("DARK ahead of it comes not", x.count(3), 3);
  }

  private static void promise3LeastAndGreatestNumbers() {
    for (String least : new String[] {"gg0000000;", "p00;", "o000;", "d0;", "h000;"}) comes(least);
    for (String greatest : new String[] {"gg9000000;", "gg0390000;", "gg0003900;", "gg0000011;", "p39;", "o200;", "d9;", "h011;", "h111;"})
      comes(greatest);
    for (String above : new String[] {"gg0400000;", "gg0004000;", "gg0000012;", "p40;", "o201;", "h012;", "h112;"}) isNotAsItMustBe(above);
    for (String far : new String[] {"gg0990000;", "gg0009900;", "gg0000099;", "p99;", "o999;", "h099;"}) isNotAsItMustBe(far);
    LightAsFarAsThePump x = Due.told("gl9393911;gg0000000;");
    int[] greatest = {5, 9, 39, 39, 11};
    for (int what = 0; what < 5; what++) {
      Due.is("greatest of a GOER " + what, x.goer(0, what), greatest[what]);
      Due.is("least of a GOER " + what, x.goer(1, what), 0);
    }
  }

  private static void promise3GoersThatAreThere() {
    for (int n = 0; n <= 7; n++)
      for (int goer = 0; goer <= 9; goer++) {
        Due.is("h of " + goer + " with " + n, Due.night(withGoers(n), "h" + goer + "05;"), goer < n ? 1 : -2000);
        Due.is("h of " + goer + " with " + n + " in the text", Due.night(new LightAsFarAsThePump(), goers(n) + "h" + goer + "05;"),
          goer < n ? n + 1 : -2000 - 10 * n);
        if (goer == 0) continue;
        Due.is("x of 0 and " + goer + " with " + n, Due.night(withGoers(n), "x0" + goer + ";"), goer < n ? 1 : -2000);
        Due.is("x of " + goer + " and 0 with " + n, Due.night(withGoers(n), "x" + goer + "0;"), goer < n ? 1 : -2000);
      }
  }

  private static void promise3OneTwice() {
    for (int goer = 0; goer <= 9; goer++) Due.is("x of one twice", Due.night(withGoers(7), "x" + goer + goer + ";"), -2000);
    Due.is("x of two", Due.night(withGoers(7), "x56;x65;"), 2);
  }

  private static void promise3RoomForSeven() {
    for (int before = 0; before <= 7; before++)
      for (int more = 1; more <= 8; more++) {
        LightAsFarAsThePump x = withGoers(before);
        int fits = 7 - before;
        Due.is(more + " GOERS more than " + before, Due.night(x, goers(more)), more <= fits ? more : -2000 - 10 * fits);
        Due.is("how many there are", x.count(0), more <= fits ? before + more : before);
      }
  }

  private static void promise3AheadInTheText() {
    LightAsFarAsThePump x = new LightAsFarAsThePump();
    Due.is("behind the text's own GOERS", Due.night(x, "gg0000003;gg0000007;x01;h002;"), 4);
    Due.is("HOUR of 0", x.goer(0, 4), 2);
    Due.is("HOUR of 1", x.goer(1, 4), 3);
    Due.is("ahead of them", Due.night(new LightAsFarAsThePump(), "h002;gg0000003;gg0000007;"), -2000);
    Due.is("between them", Due.night(new LightAsFarAsThePump(), "gg0000003;x01;gg0000007;"), -2010);
  }

  private static void promise3FirstOfSeveralFaults() {
    Due.is("the first of several", Due.night(new LightAsFarAsThePump(), "d1;o201;p40;x00;"), -2003);
    Due.is("the first of two", Due.night(new LightAsFarAsThePump(), "p39;x00;o201;"), -2004);
  }

  private static void promise3WithAFaultNothing() {
    for (String bad : new String[] {"p40;", "q", "p4", ";"}) {
      LightAsFarAsThePump x = Due.told("p05;o050;d5;" + TWO);
      x.image();
      x.row(5);
      int[] before = allTold(x);
      Due.holds("a FAULT", Due.night(x, "gg0010101;p01;o001;d1;x01;h105;x02;" + bad) < 0);
      Due.holds("nothing of it comes: " + bad, Arrays.equals(before, allTold(x)));
      Due.is("letters are no more", x.count(6), 0);
      Due.is("the ROW stays", x.count(5), 1);
      for (int what = 11; what <= 16; what++) Due.is("nothing is counted", x.count(what), 0);
      Due.is("the image stays", x.on(), 2);
      Due.holds("the image stays as it was", Arrays.equals(before, allTold(x)));
      Due.is("the next letter is the first", x.letter('d'), 1);
    }
  }

  private static void promise3LastTold() {
    LightAsFarAsThePump x = Due.told(TWO + "p01;p02;o001;o002;d1;d2;h004;h005;x01;x10;x01;");
    int[] due = {2, 2, 2, 2};
    for (int what = 0; what < 4; what++) Due.is("the last told, count(" + what + ")", x.count(what), due[what]);
    Due.is("HOURS changed thrice, 0", x.goer(0, 4), 7);
    Due.is("HOURS changed thrice, 1", x.goer(1, 4), 5);
  }

  private static void promise4FirstAndSeventhGoer() {
    LightAsFarAsThePump x = Due.told("gg1020304;" + goers(5) + "gl9393911;");
    int[] first = {0, 1, 2, 3, 4, 6, 3};
    int[] last = {5, 9, 39, 39, 11, 6, 0};
    for (int what = 0; what < 7; what++) {
      Due.is("first GOER " + what, x.goer(0, what), first[what]);
      Due.is("seventh GOER " + what, x.goer(6, what), last[what]);
      Due.is("no eighth " + what, x.goer(7, what), -1);
      Due.is("none below " + what, x.goer(-1, what), -1);
    }
    Due.is("goer(6, 7)", x.goer(6, 7), -2);
    Due.is("goer(6, -1)", x.goer(6, -1), -2);
  }

  private static void promise4HowFarHeFetches() {
    int[] due = {6, 0, 39, 6, 6, 6};
    for (int kind = 0; kind < 6; kind++)
      for (int figure = 0; figure < 10; figure++) {
        LightAsFarAsThePump x = Due.told("g" + "gdmctl".charAt(kind) + figure + "000000;");
        Due.is("KIND " + kind + " with FIGURE " + figure + " fetches", x.goer(0, 5), kind == 3 ? 6 + figure : due[kind]);
      }
  }

  private static void promise4WhatADarkStepCosts() {
    LightAsFarAsThePump x = Due.told("gg9000000;gd9000000;gm9000000;gc9000000;gt9000000;gl9000000;");
    int[] half = {0, 0, 1, 1, 2, 2, 3, 3, 4, 4};
    for (int dark = 0; dark < 10; dark++) {
      x.set(2, dark);
      int[] due = {dark, half[dark], dark + dark, dark + 1, 0, 0};
      for (int kind = 0; kind < 6; kind++) Due.is("KIND " + kind + " at DARK " + dark, x.goer(kind, 6), due[kind]);
    }
  }

  private static void promise5LeastAndGreatestHour() {
    LightAsFarAsThePump x = withGoers(7);
    for (int goer = 0; goer < 7; goer += 6) {
      for (int v = 0; v <= 11; v++) Due.is("hour(" + goer + ", " + v + ")", x.hour(goer, v), v == 0 ? 0 : v - 1);
      Due.is("below", x.hour(goer, -1), -4);
      Due.is("above", x.hour(goer, 12), -6);
      Due.is("it is 11 still", x.hour(goer, 11), 11);
    }
    for (int goer = 1; goer < 6; goer++) Due.is("HOURS of the others", x.goer(goer, 4), 0);
    Due.is("no eighth", x.hour(7, 0), -1);
  }

  private static void promise6LeastAndGreatest() {
    int[] greatest = {39, 200, 9};
    for (int what = 0; what < 3; what++) {
      LightAsFarAsThePump x = new LightAsFarAsThePump();
      x.set(what, 0);
      for (int v = 1; v <= greatest[what]; v++) Due.is("set(" + what + ", " + v + ")", x.set(what, v), v - 1);
      Due.is("set above", x.set(what, greatest[what] + 1), -6);
      Due.is("set below", x.set(what, -1), -4);
      int[] first = {20, 100, 3};
      for (int other = 0; other < 3; other++)
        Due.is("count(" + (other + 1) + ")", x.count(other + 1), other == what ? greatest[what] : first[other]);
    }
  }

  /** Whether one of a KIND and FIGURE, so many CELLS from the LAMP on the PUMP, has it. */
  private static boolean has(char kind, int figure, int pump, int from) {
    String cells = (char) ('0' + from / 10) + "" + (char) ('0' + from % 10);
    LightAsFarAsThePump x = Due.told("p" + (char) ('0' + pump / 10) + (char) ('0' + pump % 10) + ";g" + kind + figure + cells + cells + "00;");
    return x.sums(5) == 1;
  }

  private static void promise7HowFarHeFetches() {
    char[] kinds = {'g', 'd', 'c', 't', 'l'};
    int[] fetches = {6, 0, 6, 6, 6};
    for (int i = 0; i < 5; i++)
      for (int figure = 0; figure < 10; figure++) {
        int far = kinds[i] == 'c' ? 6 + figure : fetches[i];
        for (int side = -1; side <= 1; side += 2) {
          Due.holds(kinds[i] + " has it " + far + " CELLS off", has(kinds[i], figure, 20, 20 + side * far));
          Due.holds(kinds[i] + " has it not one farther than " + far, !has(kinds[i], figure, 20, 20 + side * (far + 1)));
        }
      }
    Due.holds("m has it 39 CELLS off", has('m', 0, 0, 39));
    Due.holds("m has it 39 CELLS off the other way", has('m', 9, 39, 0));
  }

  private static void promise7NoOilAndOneStepOfIt() {
    for (char kind : "gdmctl".toCharArray()) {
      sumsAre("d0;o000;g" + kind + "0202500;", kind == 'c' ? 5 : 0, 5, 0, 20, 0, 0, -9);
      LightAsFarAsThePump x = Due.told("o001;g" + kind + "0202500;");
      Due.is(kind + " has it with OIL 1", x.sums(5), 1);
      Due.is(kind + " is the last who had it", x.sums(6), 0);
      Due.is(kind + " has light for one step", x.sums(2), kind == 'l' ? 0 : 1);
    }
  }

  private static void promise7ShortOfTo() {
    // A DRUNK who takes it on 20 and goes to 23 or 17: 3 CELLS.
    int[] carried = {3, 2, 1, 0, 0, 0, 0, 0, 0, 0};
    for (int figure = 0; figure < 10; figure++) {
      int light = carried[figure];
      sumsAre("d2;gd" + figure + "202300;", 3 - light, 3 - light, light, 20 + light, 100 - light, 1, 0);
      sumsAre("d2;gd" + figure + "201700;", 3 - light, 3 - light, light, 20 - light, 100 - light, 1, 0);
    }
    sumsAre("d2;gd9203000;", 9, 9, 1, 21, 99, 1, 0);
    sumsAre("d2;gd9201000;", 9, 9, 1, 19, 99, 1, 0);
  }

  private static void promise7AlreadyThere() {
    for (char kind : "gdmctl".toCharArray())
      for (int figure = 0; figure < 10; figure += 9) sumsAre("g" + kind + figure + "202000;", 0, 0, 0, 20, 100, 1, 0);
    // The LAMP stands on TO: nothing is carried, all is the way to it, and the THIEF's way to FROM.
    sumsAre("gg0152000;", 15, 5, 0, 20, 100, 1, 0);
    sumsAre("gm0152000;", 30, 5, 0, 20, 100, 1, 0);
    sumsAre("gc0152000;", 20, 5, 0, 20, 100, 1, 0);
    sumsAre("gt0152000;", 0, 5, 5, 15, 95, 1, 0);
    sumsAre("gl0152000;", 0, 5, 0, 20, 100, 1, 0);
    // Back to FROM: he fetches it and goes there with it.
    sumsAre("gg0151500;", 15, 5, 5, 15, 95, 1, 0);
    sumsAre("gt0151500;", 0, 5, 5, 15, 95, 1, 0);
    sumsAre("gl0151500;", 0, 10, 0, 20, 100, 1, 0);
  }

  private static void promise7EndsOfTheAlley() {
    sumsAre("p00;gg0003900;", 0, 0, 39, 39, 61, 1, 0);
    sumsAre("p39;gg0390000;", 0, 0, 39, 0, 61, 1, 0);
    sumsAre("p00;gc0003900;", 0, 0, 78, 0, 22, 1, 0);
    sumsAre("p39;gt0390000;", 0, 0, 78, 39, 22, 1, 0);
    sumsAre("p00;gd9003900;", 9, 9, 30, 30, 70, 1, 0);
    sumsAre("p39;gd9390000;", 9, 9, 30, 9, 70, 1, 0);
    sumsAre("p00;gl0003900;", 0, 39, 0, 0, 100, 1, 0);
    sumsAre("p00;gm0390000;", 234, 39, 0, 0, 100, 1, 0);
  }

  private static void promise7OilJustEnough() {
    sumsAre("o014;gg0203500;", 3, 1, 14, 35, 0, 1, 0);
    sumsAre("o015;gg0203500;", 0, 0, 15, 35, 0, 1, 0);
    sumsAre("o016;gg0203500;", 0, 0, 15, 35, 1, 1, 0);
    // He fetches it in the dark: that burns nothing.
    sumsAre("o015;gg0142900;", 18, 6, 9, 29, 6, 1, 0);
    sumsAre("o008;gg0142900;", 21, 7, 8, 29, 0, 1, 0);
    sumsAre("o009;gg0142900;", 18, 6, 9, 29, 0, 1, 0);
  }

  private static void promise7OilOnTheWayBack() {
    // 10 steps to TO, 10 to the PUMP or to FROM: the last of them dark, if one step of OIL lacks.
    sumsAre("o020;gc0203000;", 0, 0, 20, 20, 0, 1, 0);
    sumsAre("o019;gc0203000;", 4, 1, 19, 20, 0, 1, 0);
    sumsAre("o010;gc0203000;", 40, 10, 10, 20, 0, 1, 0);
    sumsAre("o009;gc0203000;", 44, 11, 9, 20, 0, 1, 0);
    sumsAre("o020;gt0203000;", 0, 0, 20, 20, 0, 1, 0);
    sumsAre("o019;gt0203000;", 0, 1, 19, 20, 0, 1, 0);
  }

  private static void promise7NoneLeftForTheNext() {
    sumsAre("o010;gg0203000;gg0303501;", 15, 5, 10, 30, 0, 1, 0);
    sumsAre("o011;gg0203000;gg0303501;", 12, 4, 11, 35, 0, 2, 1);
    sumsAre("o009;gg0203000;gg0303501;", 18, 6, 9, 30, 0, 1, 0);
  }

  private static void promise7OneHourByNumbers() {
    for (String hour : new String[] {"00", "11"}) {
      sumsAre("gg02025" + hour + ";gg02530" + hour + ";", 0, 0, 10, 30, 90, 2, 1);
      sumsAre("gg02530" + hour + ";gg02025" + hour + ";", 30, 10, 10, 30, 90, 1, 0);
    }
    sumsAre("gg0253011;gg0202510;", 0, 0, 10, 30, 90, 2, 0);
    sumsAre("gg0253001;gg0202500;", 0, 0, 10, 30, 90, 2, 0);
    // Seven in one HOUR: each has it where the one ahead of him left it.
    sumsAre("gg0202205;gg0222405;gg0242605;gg0262805;gg0283005;gg0303205;gg0323405;", 0, 0, 14, 34, 86, 7, 6);
  }

  private static void promise7GreatestSums() {
    StringBuilder seven = new StringBuilder("o000;d9;");
    for (int i = 0; i < 7; i++) seven.append("gm0003900;");
    sumsAre(seven.toString(), 7 * 39 * 18, 7 * 39, 0, 20, 0, 0, -9);
    Due.is("all steps", Due.told(seven.toString()).count(4), 273);
    StringBuilder light = new StringBuilder("p00;o200;");
    for (int i = 0; i < 7; i++) light.append(i % 2 == 0 ? "gg0003900;" : "gg0390000;");
    sumsAre(light.toString(), 3 * (39 * 7 - 200), 73, 200, 0, 0, 6, 5);
  }

  private static void promise8FirstAndSeventhGoer() {
    LightAsFarAsThePump x = Due.told("gg0202200;gg0222400;gg0242600;gg0262800;gg0283000;gg0303200;gg0313600;");
    int[] first = {0, 2, 0, 20, 1};
    int[] last = {1, 4, 3, 32, 1};
    for (int what = 0; what < 5; what++) {
      Due.is("of(0, " + what + ")", x.of(0, what), first[what]);
      Due.is("of(6, " + what + ")", x.of(6, what), last[what]);
    }
    Due.is("of(6, 5)", x.of(6, 5), -2);
    Due.is("of(6, -1)", x.of(6, -1), -2);
    Due.is("of(7, 0)", x.of(7, 0), -1);
  }

  private static void promise8WithoutTheLamp() {
    LightAsFarAsThePump x = Due.told("gg0203011;gg0370700;");
    int[] first = {0, 10, 0, 20, 1};
    int[] second = {30, 0, 90, 20, 0};
    for (int what = 0; what < 5; what++) {
      Due.is("had it, " + what, x.of(0, what), first[what]);
      Due.is("had it not, " + what, x.of(1, what), second[what]);
    }
    x.set(1, 0);
    int[] dark = {10, 0, 30, 20, 0};
    for (int what = 0; what < 5; what++) Due.is("no OIL, " + what, x.of(0, what), dark[what]);
  }

  private static void promise9FirstAndLastHour() {
    LightAsFarAsThePump x = Due.told("gg0202500;gg0253011;");
    for (int hour = 0; hour < 12; hour++) Due.is("lamp(" + hour + ")", x.lamp(hour), hour < 11 ? 25 : 30);
    LightAsFarAsThePump ends = Due.told("p00;gg0003900;gg0390011;");
    Due.is("on the last CELL", ends.lamp(0), 39);
    Due.is("on the first CELL", ends.lamp(11), 0);
  }
}
