/** The ROW, LOTS, the IMAGE, counts, promises 23 to 29: each bound that the document names, on it and one beyond. */
public final class BoundsRowsTest {
  private static final int MIN = Integer.MIN_VALUE;
  private static final int MAX = Integer.MAX_VALUE;

  public static void main(String[] args) {
    promise23LeastAndGreatest();
    promise23TwelveNumbers();
    promise24EmptyRow();
    promise24FirstAndLastPlace();
    promise24RowHasNoneThen();
    promise25EmptyAndFull();
    promise26OneAndTwentyNights();
    promise26AnIntThatGoesRound();
    promise26OneDrawBehindTheOther();
    promise26AtThePumpAtTheEnd();
    promise26Nobody();
    promise26SevenGoers();
    promise27NobodyAndSeven();
    promise27TheLastImage();
    promise28NoImage();
    promise28AllThatThereIs();
    promise28ButRowLettersRefusals();
    promise29LeastAndGreatest();
    promise29AnotherWhat();
    promise29EachRefusal();
    Due.end("BoundsRowsTest");
  }

  private static void promise23LeastAndGreatest() {
    for (int v = 0; v <= 99; v++) Due.is("row(" + v + ")", new LightAsFarAsThePump().row(v), 1);
    LightAsFarAsThePump x = new LightAsFarAsThePump();
    Due.is("row(-1)", x.row(-1), -4);
    Due.is("row(100)", x.row(100), -6);
    Due.is("row(MIN)", x.row(MIN), -4);
    Due.is("row(MAX)", x.row(MAX), -6);
    Due.is("none came", x.count(5), 0);
  }

  private static void promise23TwelveNumbers() {
    LightAsFarAsThePump x = new LightAsFarAsThePump();
    for (int i = 1; i <= 12; i++) Due.is("number " + i, x.row(20), i);
    Due.is("a thirteenth", x.row(20), -6);
    Due.is("a thirteenth below", x.row(-1), -4);
    Due.is("a thirteenth above", x.row(100), -6);
    Due.is("twelve still", x.count(5), 12);
    Due.is("and all of them so", x.judge(), -9);
  }

  private static void promise24EmptyRow() {
    Due.is("nobody, no ROW", new LightAsFarAsThePump().judge(), -9);
    LightAsFarAsThePump x = Due.told("gg0202500;");
    Due.is("no ROW", x.judge(), -9);
    Due.is("no ROW again", x.judge(), -9);
  }

  private static void promise24FirstAndLastPlace() {
    LightAsFarAsThePump x = Due.told("gg0202500;gg0253006;gg0303511;");
    int[] so = {25, 25, 25, 25, 25, 25, 30, 30, 30, 30, 30, 35};
    for (int wrong = 0; wrong <= 12; wrong++) {
      for (int i = 0; i < 12; i++) Due.is("row", x.row(i >= wrong ? (i + wrong) % 2 * 99 : so[i]), i + 1);
      Due.is("the first that is not so", x.judge(), wrong < 12 ? wrong : -9);
    }
    for (int length = 1; length <= 12; length++) {
      for (int i = 0; i < length; i++) x.row(so[i]);
      Due.is("so far all so", x.judge(), -9);
    }
  }

  private static void promise24RowHasNoneThen() {
    LightAsFarAsThePump x = Due.told("gg0202500;");
    x.row(25);
    Due.is("so", x.judge(), -9);
    Due.is("none then", x.count(5), 0);
    x.row(24);
    Due.is("not so", x.judge(), 0);
    Due.is("none then", x.count(5), 0);
    for (int i = 1; i <= 12; i++) Due.is("room for twelve again", x.row(25), i);
  }

  private static void promise25EmptyAndFull() {
    LightAsFarAsThePump x = new LightAsFarAsThePump();
    Due.is("clear of none", x.clear(), 0);
    for (int n = 1; n <= 12; n++) {
      for (int i = 0; i < n; i++) x.row(i);
      Due.is("clear of " + n, x.clear(), n);
      Due.is("none then", x.count(5), 0);
      Due.is("clear again", x.clear(), 0);
    }
    for (int i = 1; i <= 12; i++) Due.is("room for twelve again", x.row(0), i);
    x.row(0);
    Due.is("one without room is none", x.clear(), 12);
  }

  private static void promise26OneAndTwentyNights() {
    LightAsFarAsThePump x = Due.told("gg0001000;");
    for (int n = 1; n <= 20; n++) {
      Due.is("COST of " + n, x.lots(n, 5, 0), 30 * n);
      Due.is("at the PUMP of " + n, x.lots(n, 5, 1), n);
    }
    Due.is("no night", x.lots(0, 5, 0), -4);
    Due.is("one night too many", x.lots(21, 5, 0), -6);
    Due.is("lots(MIN)", x.lots(MIN, 5, 1), -4);
    Due.is("lots(MAX)", x.lots(MAX, 5, 1), -6);
    Due.is("what -1", x.lots(1, 5, -1), -2);
    Due.is("what 2", x.lots(20, 5, 2), -2);
  }

  /**
   * Two DRAWS, worked in whole numbers: 0 is HOUR of him at 25, who has it for nothing only behind the one at 20 (ahead of
   * him he fetches it 5 off and brings it too far for the other: 30).
   * For z 1000: 1000 * 1664525 + 1013904223 = 2678429223, as an int -1616538073; without its sign's bit 530945575,
   * by 256 2074006, modulo 12 10. From -1616538073 likewise: -75883174, 2071600474, 8092189, 1. HOURS 10 and 1.
   */
  private static void promise26AnIntThatGoesRound() {
    LightAsFarAsThePump x = Due.told("gg0253000;gg0202500;");
    LightAsFarAsThePump turned = Due.told("gg0202500;gg0253000;");
    int[][] hours = {{0, 11, 9}, {1, 9, 9}, {7, 9, 5}, {645, 2, 2}, {646, 0, 3}, {1000, 10, 1}, {1289, 10, 8}, {5000, 1, 1},
      {-1, 1, 8}, {-610, 8, 2}, {MAX, 1, 8}, {MIN, 11, 9}};
    for (int[] h : hours) {
      Due.is("z " + h[0] + ": HOURS " + h[1] + ", " + h[2], x.lots(1, h[0], 0), h[2] < h[1] ? 0 : 30);
      Due.is("z " + h[0] + ": HOURS " + h[1] + ", " + h[2] + " turned", turned.lots(1, h[0], 0), h[1] <= h[2] ? 0 : 30);
    }
  }

  private static void promise26OneDrawBehindTheOther() {
    // HOURS of two nights: z 0: 11, 9; 6, 11. z 7: 9, 5; 8, 4. z -1: 1, 8; 8, 3.
    LightAsFarAsThePump x = Due.told("gg0253000;gg0202500;");
    int[][] due = {{0, 0, 30}, {7, 0, 0}, {-1, 30, 30}};
    for (int[] d : due) {
      Due.is("one night, z " + d[0], x.lots(1, d[0], 0), d[1]);
      Due.is("two nights, z " + d[0], x.lots(2, d[0], 0), d[2]);
    }
    // The DRAWS are the GOERS' by numbers, whatever their HOURS were.
    LightAsFarAsThePump other = Due.told("gg0253011;gg0202503;");
    for (int[] d : due) Due.is("other HOURS, z " + d[0], other.lots(2, d[0], 0), d[2]);
  }

  private static void promise26AtThePumpAtTheEnd() {
    // The CAREFUL one brings it back, if he goes behind the other.
    LightAsFarAsThePump x = Due.told("gg0202500;gc0252000;");
    int[][] due = {{0, 0, 1}, {7, 0, 0}, {-1, 1, 1}};
    for (int[] d : due) {
      Due.is("one night, z " + d[0], x.lots(1, d[0], 1), d[1]);
      Due.is("two nights, z " + d[0], x.lots(2, d[0], 1), d[2]);
    }
    Due.is("at the PUMP, each night", Due.told("gl0202500;").lots(20, MAX, 1), 20);
    Due.is("never at the PUMP", Due.told("gg0202500;").lots(20, MIN, 1), 0);
    // Each night it stands at the PUMP first, with all OIL.
    Due.is("each night alike", Due.told("o005;gg0202500;").lots(20, 3, 0), 0);
  }

  private static void promise26Nobody() {
    for (int z : new int[] {0, MIN, MAX}) {
      Due.is("nobody, COST", new LightAsFarAsThePump().lots(20, z, 0), 0);
      Due.is("nobody, at the PUMP", new LightAsFarAsThePump().lots(20, z, 1), 20);
    }
  }

  private static void promise26SevenGoers() {
    // Without OIL the HOURS are no matter: each night costs 7 times 39 steps at 18.
    LightAsFarAsThePump x = Due.told("o000;d9;" + "gm0003900;".repeat(7));
    Due.is("the greatest COST", x.lots(20, -5, 0), 20 * 7 * 39 * 18);
    Due.is("at the PUMP", x.lots(20, -5, 1), 20);
    for (int goer = 0; goer < 7; goer++) Due.is("HOURS stay", x.goer(goer, 4), 0);
  }

  private static void promise27NobodyAndSeven() {
    LightAsFarAsThePump x = new LightAsFarAsThePump();
    Due.is("image of nobody", x.image(), 0);
    Due.is("seven come", Due.night(x, "gg0000000;".repeat(7)), 7);
    Due.is("on to nobody", x.on(), 0);
    Due.is("nobody", x.goer(0, 0), -1);
    Due.is("room for seven again", Due.night(x, "gg9393911;".repeat(7)), 7);
    Due.is("image of seven", x.image(), 7);
    Due.is("HOUR changes", x.hour(6, 0), 11);
    Due.is("on to seven", x.on(), 7);
    int[] greatest = {0, 9, 39, 39, 11};
    for (int what = 0; what < 5; what++) Due.is("goer(6, " + what + ")", x.goer(6, what), greatest[what]);
  }

  private static void promise27TheLastImage() {
    LightAsFarAsThePump x = new LightAsFarAsThePump();
    x.image();
    x.set(0, 39);
    x.image();
    x.set(0, 0);
    Due.is("on", x.on(), 0);
    Due.is("as at the last image", x.count(1), 39);
    x.set(0, 5);
    Due.is("on once more", x.on(), 0);
    Due.is("the image is there still", x.count(1), 39);
    Due.is("a change behind on", x.set(0, 7), 39);
    Due.is("on a third time", x.on(), 0);
    Due.is("leaves the image alone", x.count(1), 39);
  }

  private static void promise28NoImage() {
    LightAsFarAsThePump x = Due.told("p05;gg0000000;");
    Due.is("on without an image", x.on(), -3);
    Due.is("GOERS stay", x.count(0), 1);
    Due.is("PUMP stays", x.count(1), 5);
    Due.is("counted", x.count(13), 1);
  }

  private static void promise28AllThatThereIs() {
    LightAsFarAsThePump x = Due.told("p01;o002;d4;gm5060708;gl9393911;");
    x.image();
    Due.is("all changes", Due.night(x, "p10;o020;d5;h000;h100;gg0000000;"), 6);
    Due.is("on", x.on(), 2);
    int[] counts = {2, 1, 2, 4, 1};
    for (int what = 0; what < 5; what++) Due.is("count(" + what + ")", x.count(what), counts[what]);
    int[][] goers = {{2, 5, 6, 7, 8}, {5, 9, 39, 39, 11}};
    for (int goer = 0; goer < 2; goer++)
      for (int what = 0; what < 5; what++) Due.is("goer(" + goer + ", " + what + ")", x.goer(goer, what), goers[goer][what]);
    Due.is("the third is no more", x.goer(2, 0), -1);
  }

  private static void promise28ButRowLettersRefusals() {
    LightAsFarAsThePump x = new LightAsFarAsThePump();
    x.row(1);
    Due.letters(x, "d");
    x.sums(7);
    x.image();
    x.row(20);
    Due.letters(x, "7;");
    x.sums(7);
    Due.is("on", x.on(), 0);
    Due.is("the ROW is longer", x.count(5), 2);
    Due.is("the letters are more", x.count(6), 3);
    Due.is("the REFUSALS are more", x.count(12), 2);
    Due.is("the ROW's first is not so", x.judge(), 0);
    Due.is("the letters are a NIGHT", x.night(), 1);
    Due.is("DARK", x.count(3), 7);
    Due.is("on", x.on(), 0);
    Due.is("the ROW is not there again", x.count(5), 0);
    Due.is("the letters are not there again", x.count(6), 0);
  }

  private static void promise29LeastAndGreatest() {
    LightAsFarAsThePump full = Due.told("p39;o200;d9;" + "gg0003900;".repeat(7));
    Due.letters(full, "d".repeat(96));
    for (int i = 0; i < 12; i++) full.row(99);
    int[] greatest = {7, 39, 200, 9, 273, 12, 96};
    for (int what = 0; what < 7; what++) Due.is("greatest count(" + what + ")", full.count(what), greatest[what]);
    LightAsFarAsThePump least = new LightAsFarAsThePump();
    for (int what = 0; what < 3; what++) least.set(what, 0);
    for (int what = 0; what < 7; what++) Due.is("least count(" + what + ")", least.count(what), 0);
    Due.is("steps both ways", Due.told("gg0392900;gt0051511;gl0202000;").count(4), 20);
  }

  private static void promise29AnotherWhat() {
    LightAsFarAsThePump x = new LightAsFarAsThePump();
    for (int what : new int[] {MIN, -2, -1, 7, 8, 9, 10, 17, 18, MAX}) Due.is("count(" + what + ")", x.count(what), -9);
    for (int what = 11; what <= 16; what++) Due.is("that is no REFUSAL, " + what, x.count(what), 0);
  }

  private static void promise29EachRefusal() {
    LightAsFarAsThePump x = new LightAsFarAsThePump();
    int[] due = new int[6];
    for (int i = 0; i < 6; i++) {
      switch (i) {
        case 0: Due.is("NOBODY", x.goer(0, 0), -1); break;
        case 1: Due.is("OTHER", x.sums(7), -2); break;
        case 2: Due.is("STATE", x.on(), -3); break;
        case 3: Due.is("BELOW", x.lamp(-1), -4); break;
        case 5: Due.is("ROOM", x.lamp(12), -6); break;
        default: continue;
      }
      due[i]++;
      for (int j = 0; j < 6; j++) Due.is("count(" + (11 + j) + ") behind " + i, x.count(11 + j), due[j]);
    }
    Due.is("there is no -5", x.count(15), 0);
  }
}
