/** Promises 23 to 29: the ROW, LOTS, the IMAGE, counts. */
public final class RowsLotsImageTest {
  public static void main(String[] args) {
    promise23Row();
    promise24Judge();
    promise25Clear();
    promise26Lots();
    promise27And28Image();
    promise29Count();
    Due.end("RowsLotsImageTest");
  }

  private static void promise23Row() {
    LightAsFarAsThePump x = new LightAsFarAsThePump();
    Due.is("row(-1)", x.row(-1), -4);
    Due.is("row(100)", x.row(100), -6);
    Due.is("row(MIN)", x.row(Integer.MIN_VALUE), -4);
    for (int i = 1; i <= 12; i++) Due.is("row", x.row(i == 1 ? 0 : 99), i);
    Due.is("a thirteenth", x.row(0), -6);
    Due.is("a thirteenth below", x.row(-1), -4);
    Due.is("count(5)", x.count(5), 12);
    Due.is("count(14)", x.count(14), 3);
    Due.is("count(16)", x.count(16), 2);
  }

  private static void judged(LightAsFarAsThePump x, int due, int... numbers) {
    for (int i = 0; i < numbers.length; i++) Due.is("row", x.row(numbers[i]), i + 1);
    Due.is("judge", x.judge(), due);
    Due.is("the ROW has none then", x.count(5), 0);
  }

  private static void promise24Judge() {
    LightAsFarAsThePump x = Due.told("gg0203001;gg0302511;");
    judged(x, -9);
    judged(x, -9, 20);
    judged(x, -9, 20, 30, 30);
    judged(x, 0, 30);
    judged(x, 1, 20, 20, 20);
    judged(x, 2, 20, 30, 99);
    judged(x, -9, 20, 30, 30, 30, 30, 30, 30, 30, 30, 30, 30, 25);
    judged(x, 11, 20, 30, 30, 30, 30, 30, 30, 30, 30, 30, 30, 30);
    Due.is("clear", x.clear(), 0);
  }

  private static void promise25Clear() {
    LightAsFarAsThePump x = new LightAsFarAsThePump();
    Due.is("clear of none", x.clear(), 0);
    x.row(1);
    x.row(2);
    Due.is("clear of two", x.clear(), 2);
    Due.is("clear again", x.clear(), 0);
    Due.is("row is the first", x.row(20), 1);
    Due.is("judge of the new one", x.judge(), -9);
  }

  /** The DRAWS told in long numbers, and each NIGHT gone on an object of its own. */
  private static void lotsAre(String text, int goers, int n, int z) {
    LightAsFarAsThePump x = Due.told(text);
    LightAsFarAsThePump nights = Due.told(text);
    long seed = z;
    int cost = 0;
    int atPump = 0;
    for (int i = 0; i < n; i++) {
      for (int goer = 0; goer < goers; goer++) {
        seed = (int) (seed * 1664525L + 1013904223L);
        long bare = seed < 0 ? seed + 2147483648L : seed;
        nights.hour(goer, (int) (bare / 256 % 12));
      }
      cost += nights.sums(0);
      if (nights.sums(3) == nights.count(1)) atPump++;
    }
    Due.is("lots(" + n + ", " + z + ", 0)", x.lots(n, z, 0), cost);
    Due.is("lots(" + n + ", " + z + ", 1)", x.lots(n, z, 1), atPump);
    for (int goer = 0; goer < goers; goer++) Due.is("HOURS stay", x.goer(goer, 4), goer + 1);
  }

  private static void promise26Lots() {
    String six = "gg0203501;gd3351002;gm0300503;gc4123804;gt0250105;gl0020506;";
    LightAsFarAsThePump x = Due.told(six);
    Due.is("lots(5, 7, 0)", x.lots(5, 7, 0), 740);
    Due.is("lots(5, 7, 1)", x.lots(5, 7, 1), 2);
    lotsAre(six, 6, 1, 0);
    lotsAre(six, 6, 20, -1);
    lotsAre(six, 6, 20, Integer.MIN_VALUE);
    lotsAre(six, 6, 13, Integer.MAX_VALUE);
    x.whoHad(0, 0);
    Due.is("lots behind whoHad", x.lots(5, 7, 0), 740);
    Due.is("lots(0, 0, 2)", x.lots(0, 0, 2), -4);
    Due.is("lots(-5, 0, 0)", x.lots(-5, 0, 0), -4);
    Due.is("lots(21, 0, 2)", x.lots(21, 0, 2), -6);
    Due.is("lots(20, 0, 2)", x.lots(20, 0, 2), -2);
    Due.is("lots(1, 0, -1)", x.lots(1, 0, -1), -2);
    Due.is("nobody", new LightAsFarAsThePump().lots(20, 5, 1), 20);
    Due.is("nobody costs", new LightAsFarAsThePump().lots(20, 5, 0), 0);
    Due.is("count(12)", x.count(12), 2);
    Due.is("count(14)", x.count(14), 2);
    Due.is("count(16)", x.count(16), 1);
  }

  private static void promise27And28Image() {
    LightAsFarAsThePump x = Due.told("p05;o050;d5;gd3010203;");
    Due.is("on without an image", x.on(), -3);
    Due.is("image", x.image(), 1);
    Due.is("a night more", Due.night(x, "p06;o060;d6;gg0000000;h011;"), 5);
    Due.letters(x, "xyz");
    x.row(7);
    x.goer(9, 0);
    Due.is("on", x.on(), 1);
    int[] goer = {1, 3, 1, 2, 3};
    for (int what = 0; what < 5; what++) Due.is("goer(0, " + what + ")", x.goer(0, what), goer[what]);
    int[] counts = {1, 5, 50, 5, 1, 1, 3};
    for (int what = 0; what < counts.length; what++) Due.is("count(" + what + ")", x.count(what), counts[what]);
    Due.is("REFUSALS stay", x.count(11), 1);
    Due.is("REFUSALS stay", x.count(13), 1);
    x.hour(0, 9);
    x.set(0, 30);
    Due.is("on again", x.on(), 1);
    Due.is("HOUR again", x.goer(0, 4), 3);
    Due.is("PUMP again", x.count(1), 5);
    x.set(0, 31);
    Due.is("a new image", x.image(), 1);
    x.set(0, 32);
    Due.is("on from the new one", x.on(), 1);
    Due.is("PUMP of the new one", x.count(1), 31);
    LightAsFarAsThePump empty = new LightAsFarAsThePump();
    Due.is("image of nobody", empty.image(), 0);
    Due.is("one comes", Due.night(empty, "gg0000000;"), 1);
    Due.is("on to nobody", empty.on(), 0);
    Due.is("nobody", empty.goer(0, 0), -1);
  }

  private static void promise29Count() {
    LightAsFarAsThePump x = Due.told("gg0203501;gd3351002;p07;o008;d9;");
    int[] due = {2, 7, 8, 9, 40, 0, 0};
    for (int what = 0; what < due.length; what++) Due.is("count(" + what + ")", x.count(what), due[what]);
    int[] others = {-1, 7, 8, 9, 10, 17, 18, Integer.MIN_VALUE, Integer.MAX_VALUE};
    for (int other : others) Due.is("count(" + other + ")", x.count(other), -9);
    for (int what = 11; what <= 16; what++) Due.is("count(" + what + ")", x.count(what), 0);
    x.of(5, 5);
    x.sums(8);
    x.sums(8);
    x.on();
    x.lamp(-1);
    x.lamp(12);
    x.second(40);
    int[] refusals = {2, 2, 1, 1, 0, 1};
    for (int i = 0; i < 6; i++) Due.is("REFUSALS " + i, x.count(11 + i), refusals[i]);
  }
}
