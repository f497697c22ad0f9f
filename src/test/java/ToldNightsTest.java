/** Promises 1 to 9: what is told, how a NIGHT goes, what each took. All numbers are worked by hand. */
public final class ToldNightsTest {
  static final String SIX = "gg0203501;gd3351002;gm0300503;gc4123804;gt0250105;gl0020506;";

  public static void main(String[] args) {
    promise1NewObject();
    promise2Letter();
    promise3Night();
    promise3FaultsOfLetters();
    promise3FaultsOfStatements();
    promise4Goer();
    promise5Hour();
    promise6Set();
    promise7Sums();
    promise7Kinds();
    promise7Oil();
    promise8Of();
    promise9Lamp();
    Due.end("ToldNightsTest");
  }

  private static void promise1NewObject() {
    LightAsFarAsThePump x = new LightAsFarAsThePump();
    long[] due = {0, 20, 100, 3, 0, 0, 0};
    for (int what = 0; what < due.length; what++) Due.is("new count(" + what + ")", x.count(what), due[what]);
    for (int what = 11; what <= 16; what++) Due.is("new count(" + what + ")", x.count(what), 0);
    long[] sums = {0, 0, 0, 20, 100, 0, -9};
    for (int what = 0; what < sums.length; what++) Due.is("new sums(" + what + ")", x.sums(what), sums[what]);
    Due.is("new on()", x.on(), -3);
  }

  private static void promise2Letter() {
    LightAsFarAsThePump x = new LightAsFarAsThePump();
    Due.is("letter(0)", x.letter(0), 1);
    Due.is("letter(255)", x.letter(255), 2);
    Due.is("letter(-1)", x.letter(-1), -4);
    Due.is("letter(MIN)", x.letter(Integer.MIN_VALUE), -4);
    Due.is("letter(256)", x.letter(256), -6);
    Due.is("letter(MAX)", x.letter(Integer.MAX_VALUE), -6);
    Due.is("count(6)", x.count(6), 2);
    for (int i = 3; i <= 96; i++) Due.is("letter " + i, x.letter(';'), i);
    Due.is("letter 97", x.letter(';'), -6);
    Due.is("letter -1 when full", x.letter(-1), -4);
    Due.is("count(6) full", x.count(6), 96);
    Due.is("count(14)", x.count(14), 3);
    Due.is("count(16)", x.count(16), 3);
    Due.is("night of nothing told", x.night(), -1000);
    Due.is("letters are no more", x.count(6), 0);
    Due.is("letter again", x.letter('g'), 1);
  }

  private static void promise3Night() {
    LightAsFarAsThePump x = new LightAsFarAsThePump();
    Due.is("night of all STATEMENTS", Due.night(x, "p05;o200;d9;gm7390011;gl9003900;x01;h111;"), 7);
    Due.is("PUMP", x.count(1), 5);
    Due.is("OIL", x.count(2), 200);
    Due.is("DARK", x.count(3), 9);
    Due.is("GOERS", x.count(0), 2);
    Due.is("HOUR of 0", x.goer(0, 4), 0);
    Due.is("HOUR of 1", x.goer(1, 4), 11);
    Due.is("letters", x.count(6), 0);
    Due.is("a GOER more", Due.night(x, "gg1020304;x02;h105;"), 3);
    Due.is("GOERS are three", x.count(0), 3);
    Due.is("HOUR of 0 now", x.goer(0, 4), 4);
    Due.is("HOUR of 1 now", x.goer(1, 4), 5);
    Due.is("HOUR of 2 now", x.goer(2, 4), 0);
    Due.is("PUMP stays", x.count(1), 5);
    Due.is("p alone", Due.night(x, "p39;"), 1);
    Due.is("o least", Due.night(x, "o000;d0;p00;"), 3);
    Due.is("OIL 0", x.count(2), 0);
  }

  private static void promise3FaultsOfLetters() {
    String[] texts = {"", ";", "x", "q", "G", "g;", "gx0000000;", "gg;", "gg0", "gg000000;", "gg00000000;", "gg0000000",
      "gg0000000;;", "gg0000000;g", "p0;", "p000;", "p00", "o00;", "o0000;", "d;", "d10;", "x0;", "x012;", "h01;", "h0123;",
      "p40;p4:;", "p00;d/;", "d1;d1;d1", "x00; ", "pp0;", "d0;\u00ff"};
    int[] places = {0, 0, 1, 0, 0, 1, 1, 2, 3, 8, 9, 9, 10, 11, 2, 3, 3, 3, 4, 1, 2, 2, 3, 3, 4, 6, 5, 8, 4, 1, 3};
    LightAsFarAsThePump x = new LightAsFarAsThePump();
    for (int i = 0; i < texts.length; i++) Due.is("night of " + texts[i], Due.night(x, texts[i]), -1000 - places[i]);
    Due.is("letters are no more", x.count(6), 0);
    for (int what = 11; what <= 16; what++) Due.is("no FAULT is counted " + what, x.count(what), 0);
    StringBuilder full = new StringBuilder();
    for (int i = 0; i < 32; i++) full.append("d" + i % 10 + ";");
    Due.is("96 letters", Due.night(x, full.toString()), 32);
    Due.is("DARK of the last", x.count(3), 1);
    Due.is("96 letters, the last lacks", Due.night(x, full.substring(0, 93) + "d11"), -1095);
    Due.is("96 letters, the end lacks", Due.night(x, full.substring(0, 93) + "p11"), -1096);
  }

  private static void promise3FaultsOfStatements() {
    String[] texts = {"gg0400000;", "gg0390000;gg0004000;", "gg0000012;", "p40;", "d4;p99;", "o201;", "o999;", "x00;", "x01;",
      "gg0000000;x01;", "gg0000000;x10;", "gg0000000;x00;", "h000;", "gg0000000;h100;", "gg0000000;h012;", "x01;gg0000000;gg0000000;",
      "h000;gg0000000;", "p10;o020;d4;o250;p50;"};
    int[] places = {0, 10, 0, 0, 3, 0, 0, 0, 0, 10, 10, 10, 0, 10, 10, 0, 0, 12};
    LightAsFarAsThePump x = new LightAsFarAsThePump();
    for (int i = 0; i < texts.length; i++) {
      Due.is("night of " + texts[i], Due.night(x, texts[i]), -2000 - places[i]);
      Due.is("with a FAULT no GOER comes", x.count(0), 0);
      Due.is("with a FAULT no PUMP comes", x.count(1), 20);
      Due.is("with a FAULT no OIL comes", x.count(2), 100);
      Due.is("with a FAULT no DARK comes", x.count(3), 3);
      Due.is("with a FAULT letters are no more", x.count(6), 0);
    }
    for (int what = 11; what <= 16; what++) Due.is("no FAULT is counted " + what, x.count(what), 0);
    StringBuilder seven = new StringBuilder();
    for (int i = 0; i < 7; i++) seven.append("gg0000000;");
    Due.is("eight GOERS", Due.night(x, seven + "gg0000000;"), -2070);
    Due.is("none of them", x.count(0), 0);
    Due.is("seven GOERS", Due.night(x, seven.toString()), 7);
    Due.is("an eighth later", Due.night(x, "d5;gg0000000;"), -2003);
    Due.is("seven stay", x.count(0), 7);
    Due.is("GOERS told before are there", Due.night(x, "x06;h611;"), 2);
    Due.is("no GOER 7", Due.night(x, "h700;"), -2000);
    Due.is("one twice", Due.night(x, "x33;"), -2000);
  }

  private static void promise4Goer() {
    LightAsFarAsThePump x = Due.told("gg1021103;gd2031204;gm3041305;gc4051406;gt5061507;gl6071608;d7;");
    int[] fetches = {6, 0, 39, 10, 6, 6};
    int[] costs = {7, 3, 14, 8, 0, 0};
    for (int goer = 0; goer < 6; goer++) {
      Due.is("KIND", x.goer(goer, 0), goer);
      Due.is("FIGURE", x.goer(goer, 1), goer + 1);
      Due.is("FROM", x.goer(goer, 2), goer + 2);
      Due.is("TO", x.goer(goer, 3), goer + 11);
      Due.is("HOUR", x.goer(goer, 4), goer + 3);
      Due.is("fetches " + goer, x.goer(goer, 5), fetches[goer]);
      Due.is("dark step " + goer, x.goer(goer, 6), costs[goer]);
    }
    Due.is("goer(6, 0)", x.goer(6, 0), -1);
    Due.is("goer(-1, 0)", x.goer(-1, 0), -1);
    Due.is("goer(6, 7)", x.goer(6, 7), -1);
    Due.is("goer(0, 7)", x.goer(0, 7), -2);
    Due.is("goer(0, -1)", x.goer(0, -1), -2);
    Due.is("count(11)", x.count(11), 3);
    Due.is("count(12)", x.count(12), 2);
    x.set(2, 0);
    for (int goer = 0; goer < 6; goer++) Due.is("dark step at DARK 0", x.goer(goer, 6), goer == 3 ? 1 : 0);
  }

  private static void promise5Hour() {
    LightAsFarAsThePump x = Due.told("gg0202503;");
    Due.is("hour(0, 11)", x.hour(0, 11), 3);
    Due.is("hour(0, 0)", x.hour(0, 0), 11);
    Due.is("HOUR", x.goer(0, 4), 0);
    Due.is("lamp(0)", x.lamp(0), 25);
    Due.is("hour(0, -1)", x.hour(0, -1), -4);
    Due.is("hour(0, 12)", x.hour(0, 12), -6);
    Due.is("hour(1, -1)", x.hour(1, -1), -1);
    Due.is("hour(-1, 12)", x.hour(-1, 12), -1);
    Due.is("HOUR stays", x.goer(0, 4), 0);
    Due.is("count(11)", x.count(11), 2);
    Due.is("count(14)", x.count(14), 1);
    Due.is("count(16)", x.count(16), 1);
  }

  private static void promise6Set() {
    LightAsFarAsThePump x = new LightAsFarAsThePump();
    int[] first = {20, 100, 3};
    int[] greatest = {39, 200, 9};
    for (int what = 0; what < 3; what++) {
      Due.is("set greatest " + what, x.set(what, greatest[what]), first[what]);
      Due.is("set above " + what, x.set(what, greatest[what] + 1), -6);
      Due.is("set MAX " + what, x.set(what, Integer.MAX_VALUE), -6);
      Due.is("set below " + what, x.set(what, -1), -4);
      Due.is("set stays " + what, x.count(what + 1), greatest[what]);
      Due.is("set least " + what, x.set(what, 0), greatest[what]);
      Due.is("set is " + what, x.count(what + 1), 0);
    }
    Due.is("set(3, -1)", x.set(3, -1), -2);
    Due.is("set(-1, 500)", x.set(-1, 500), -2);
    Due.is("the LAMP stands at the PUMP", x.sums(3), 0);
  }

  private static void sumsAre(String text, int... due) {
    LightAsFarAsThePump x = Due.told(text);
    for (int what = 0; what < due.length; what++) Due.is("sums(" + what + ") of " + text, x.sums(what), due[what]);
  }

  private static void promise7Sums() {
    sumsAre(SIX, 133, 74, 100, 25, 0, 5, 4);
    sumsAre("p20;", 0, 0, 0, 20, 100, 0, -9);
    LightAsFarAsThePump x = Due.told(SIX);
    Due.is("sums(7)", x.sums(7), -2);
    Due.is("sums(-1)", x.sums(-1), -2);
    Due.is("count(12)", x.count(12), 2);
    // In one HOUR by numbers; else by HOURS, whatever the numbers.
    sumsAre("gg0202505;gg0253005;", 0, 0, 10, 30, 90, 2, 1);
    sumsAre("gg0253005;gg0202505;", 30, 10, 10, 30, 90, 1, 0);
    sumsAre("gg0253006;gg0202505;", 0, 0, 10, 30, 90, 2, 0);
  }

  private static void promise7Kinds() {
    sumsAre("gg0263000;", 18, 6, 10, 30, 90, 1, 0);
    sumsAre("gg9273000;", 9, 3, 0, 20, 100, 0, -9);
    sumsAre("gg0201000;", 0, 0, 10, 10, 90, 1, 0);
    sumsAre("gd0202300;", 0, 0, 3, 23, 97, 1, 0);
    sumsAre("gd2202300;", 2, 2, 1, 21, 99, 1, 0);
    sumsAre("gd2201700;", 2, 2, 1, 19, 99, 1, 0);
    sumsAre("gd9202300;", 3, 3, 0, 20, 100, 1, 0);
    sumsAre("gd9201700;", 3, 3, 0, 20, 100, 1, 0);
    sumsAre("gd0212300;", 2, 2, 0, 20, 100, 0, -9);
    sumsAre("d1;gd5202900;", 0, 5, 4, 24, 96, 1, 0);
    sumsAre("p00;gm0393800;", 234, 39, 38, 38, 62, 1, 0);
    sumsAre("gc9353000;", 60, 15, 20, 20, 80, 1, 0);
    sumsAre("gc9363000;", 24, 6, 0, 20, 100, 0, -9);
    sumsAre("gc0143000;", 24, 6, 20, 20, 80, 1, 0);
    sumsAre("gc0133000;", 68, 17, 0, 20, 100, 0, -9);
    sumsAre("gt9261000;", 0, 6, 26, 26, 74, 1, 0);
    sumsAre("gt9271000;", 0, 17, 0, 20, 100, 0, -9);
    sumsAre("gl9261000;", 0, 16, 0, 20, 100, 1, 0);
    sumsAre("gl9271000;", 0, 17, 0, 20, 100, 0, -9);
  }

  private static void promise7Oil() {
    sumsAre("o005;gg0203500;gg0353000;", 45, 15, 5, 35, 0, 1, 0);
    sumsAre("o000;gg0202500;", 15, 5, 0, 20, 0, 0, -9);
    sumsAre("o015;gg0203500;", 0, 0, 15, 35, 0, 1, 0);
    sumsAre("o001;gg0202200;", 3, 1, 1, 22, 0, 1, 0);
    // The CAREFUL one and the THIEF bring it to the end though it burns no more.
    sumsAre("o008;gc0203000;", 48, 12, 8, 20, 0, 1, 0);
    sumsAre("o012;gt0251000;", 0, 18, 12, 25, 0, 1, 0);
  }

  private static void promise8Of() {
    LightAsFarAsThePump x = Due.told(SIX);
    int[][] due = {{0, 15, 0, 20, 1}, {3, 22, 3, 35, 1}, {17, 8, 102, 13, 1}, {7, 51, 28, 5, 1}, {44, 4, 0, 20, 1}, {3, 0, 0, 25, 0}};
    for (int goer = 0; goer < 6; goer++)
      for (int what = 0; what < 5; what++) Due.is("of(" + goer + ", " + what + ")", x.of(goer, what), due[goer][what]);
    Due.is("of(6, 5)", x.of(6, 5), -1);
    Due.is("of(-1, 0)", x.of(-1, 0), -1);
    Due.is("of(0, 5)", x.of(0, 5), -2);
    Due.is("of(0, -1)", x.of(0, -1), -2);
    // What one took of another walk must not stay with him.
    x.set(1, 0);
    Due.is("of(0, 1) without OIL", x.of(0, 1), 0);
    Due.is("of(0, 0) without OIL", x.of(0, 0), 15);
    Due.is("of(0, 4) without OIL", x.of(0, 4), 0);
  }

  private static void promise9Lamp() {
    LightAsFarAsThePump x = Due.told(SIX);
    int[] due = {20, 35, 13, 5, 20, 25, 25, 25, 25, 25, 25, 25};
    for (int hour = 0; hour < 12; hour++) Due.is("lamp(" + hour + ")", x.lamp(hour), due[hour]);
    Due.is("lamp(-1)", x.lamp(-1), -4);
    Due.is("lamp(12)", x.lamp(12), -6);
    Due.is("count(14)", x.count(14), 1);
    Due.is("count(16)", x.count(16), 1);
    // At the END of an HOUR: behind the last who goes in it.
    LightAsFarAsThePump two = Due.told("gg0202411;gg0242811;");
    Due.is("lamp(10)", two.lamp(10), 20);
    Due.is("lamp(11)", two.lamp(11), 28);
  }
}
