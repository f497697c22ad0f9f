import java.util.Arrays;

/**
 * Each call that is refused answers the first number that fits in the order told, and nothing changes but how
 * many REFUSALS there were: all that can be read is looked at before and behind, and what can be read only by
 * using it up (the ROW, the letters, the image) is used up on the object and on a twin that was not called.
 */
public final class RefusalsTest {
  private static final int MIN = Integer.MIN_VALUE;
  private static final int MAX = Integer.MAX_VALUE;
  private static final int REFUSED = 1000000000;
  private static final int[] BELOW_0 = {-1, -2, MIN};

  private interface Call { int on(LightAsFarAsThePump x); }

  /** What stands there before the call: nobody and nothing, two GOERS, six, or seven with all full. */
  private enum Scene {
    NOTHING(""), TWO("p10;o050;d4;gg3102501;gc2203011;"),
    SIX("gg0203501;gd3351002;gm0300503;gc4123804;gt0250105;gl0020506;"),
    FULL("gg0203501;gd3351002;gm0300503;gc4123804;gt0250105;gl0020506;gg9393911;");

    final String text;
    Scene(String text) { this.text = text; }
  }

  public static void main(String[] args) {
    letter();
    letterWhenFull();
    goer();
    hour();
    set();
    sums();
    of();
    lamp();
    bestWhat();
    bestOfSeven();
    bestPlace();
    bestHour();
    without();
    second();
    net();
    near();
    midwife();
    whoHad();
    row();
    rowWhenFull();
    lots();
    on();
    refusedOftenIsCountedOften();
    askingChangesNothing();
    whatIsNotRefusedIsNotCounted();
    Due.end("RefusalsTest");
  }

  private static LightAsFarAsThePump make(Scene scene) {
    LightAsFarAsThePump x = new LightAsFarAsThePump();
    if (scene == Scene.NOTHING) return x;
    tell(x, scene.text);
    x.night();
    // The image is another than what stands there now, so that going on from it shows.
    x.image();
    x.hour(0, 2);
    x.set(0, 11);
    int numbers = scene == Scene.FULL ? 12 : 2;
    for (int i = 0; i < numbers; i++) x.row(x.lamp(i));
    for (int i = 0; i < (scene == Scene.FULL ? 32 : 2); i++) tell(x, "d" + i % 10 + ";");
    return x;
  }

  private static void tell(LightAsFarAsThePump x, String text) {
    for (int i = 0; i < text.length(); i++) x.letter(text.charAt(i));
  }

  private static int[] readable(LightAsFarAsThePump x) {
    int[] all = new int[7 + 7 * 5];
    for (int what = 0; what < 7; what++) all[what] = x.count(what);
    for (int i = 0; i < 5 * all[0]; i++) all[7 + i] = x.goer(i / 5, i % 5);
    return all;
  }

  private static int[] refusals(LightAsFarAsThePump x) {
    int[] all = new int[6];
    for (int i = 0; i < 6; i++) all[i] = x.count(11 + i);
    return all;
  }

  private static void alike(String what, int[] got, int[] want) {
    Due.holds(what + ": " + Arrays.toString(got) + ", due is " + Arrays.toString(want), Arrays.equals(got, want));
  }

  /** The call answers what is due; the REFUSAL, if it is none of 0, is counted once; nothing else changes. */
  private static void nothingChanges(String name, Scene scene, int refusal, int due, Call call) {
    String at = name + " on " + scene;
    LightAsFarAsThePump x = make(scene);
    LightAsFarAsThePump twin = make(scene);
    int[] counted = refusals(x);
    int[] before = readable(x);
    Due.is(at, call.on(x), due);
    if (refusal != 0) counted[-refusal - 1]++;
    alike(at + ", REFUSALS", refusals(x), counted);
    alike(at + ", all that can be read", readable(x), before);
    Due.is(at + ", the ROW judged", x.judge(), twin.judge());
    Due.is(at + ", the letters told", x.night(), twin.night());
    alike(at + ", behind the night", readable(x), readable(twin));
    Due.is(at + ", on from the image", x.on(), twin.on());
    alike(at + ", on from the image", readable(x), readable(twin));
  }

  private static void refused(String name, Scene scene, int refusal, Call call) {
    nothingChanges(name, scene, refusal, refusal, call);
  }

  private static void letter() {
    for (Scene scene : new Scene[] {Scene.NOTHING, Scene.TWO}) {
      for (int c : BELOW_0) refused("letter " + c, scene, -4, x -> x.letter(c));
      for (int c : new int[] {256, 257, MAX}) refused("letter " + c, scene, -6, x -> x.letter(c));
    }
  }

  private static void letterWhenFull() {
    for (int c : BELOW_0) refused("letter " + c, Scene.FULL, -4, x -> x.letter(c));
    for (int c : new int[] {0, 'd', 255, 256, MAX}) refused("letter " + c, Scene.FULL, -6, x -> x.letter(c));
  }

  /** The scenes, each with a GOER that is just not there. */
  private static void noSuchGoer(String name, int due, TwoNumbers call, int... whats) {
    for (Scene scene : Scene.values()) {
      int none = make(scene).count(0);
      for (int goer : new int[] {-1, none, none + 1, MIN, MAX})
        for (int what : whats) nothingChanges(name + "(" + goer + ", " + what + ")", scene, -1, due, x -> call.on(x, goer, what));
    }
  }

  private interface TwoNumbers { int on(LightAsFarAsThePump x, int a, int b); }

  private static void goer() {
    // Nobody goes ahead of another what.
    noSuchGoer("goer", -1, (x, g, w) -> x.goer(g, w), 0, 6, -1, 7);
    for (int what : new int[] {-1, 7, 8, MIN, MAX}) {
      refused("goer(0, " + what + ")", Scene.TWO, -2, x -> x.goer(0, what));
      refused("goer(6, " + what + ")", Scene.FULL, -2, x -> x.goer(6, what));
    }
  }

  private static void hour() {
    noSuchGoer("hour", -1, (x, g, v) -> x.hour(g, v), 0, 11, -1, 12);
    for (int v : BELOW_0) refused("hour(1, " + v + ")", Scene.TWO, -4, x -> x.hour(1, v));
    for (int v : new int[] {12, 13, MAX}) refused("hour(1, " + v + ")", Scene.TWO, -6, x -> x.hour(1, v));
    refused("hour(6, -1)", Scene.FULL, -4, x -> x.hour(6, -1));
    refused("hour(6, 12)", Scene.FULL, -6, x -> x.hour(6, 12));
  }

  private static void set() {
    int[] greatest = {39, 200, 9};
    for (Scene scene : new Scene[] {Scene.NOTHING, Scene.TWO}) {
      for (int what : new int[] {-1, 3, 4, MIN, MAX})
        for (int v : new int[] {0, -1, 201}) refused("set(" + what + ", " + v + ")", scene, -2, x -> x.set(what, v));
      for (int what = 0; what < 3; what++) {
        int w = what;
        for (int v : BELOW_0) refused("set(" + w + ", " + v + ")", scene, -4, x -> x.set(w, v));
        for (int v : new int[] {greatest[w] + 1, greatest[w] + 2, MAX}) refused("set(" + w + ", " + v + ")", scene, -6, x -> x.set(w, v));
      }
    }
  }

  private static void sums() {
    for (Scene scene : Scene.values())
      for (int what : new int[] {-1, 7, 8, MIN, MAX}) refused("sums(" + what + ")", scene, -2, x -> x.sums(what));
  }

  private static void of() {
    noSuchGoer("of", -1, (x, g, w) -> x.of(g, w), 0, 4, -1, 5);
    for (int what : new int[] {-1, 5, 6, MIN, MAX}) {
      refused("of(0, " + what + ")", Scene.TWO, -2, x -> x.of(0, what));
      refused("of(6, " + what + ")", Scene.FULL, -2, x -> x.of(6, what));
    }
  }

  private static void lamp() {
    for (Scene scene : Scene.values()) {
      for (int hour : BELOW_0) refused("lamp(" + hour + ")", scene, -4, x -> x.lamp(hour));
      for (int hour : new int[] {12, 13, MAX}) refused("lamp(" + hour + ")", scene, -6, x -> x.lamp(hour));
    }
  }

  private static void bestWhat() {
    // OTHER goes ahead of all, with seven GOERS too.
    for (Scene scene : Scene.values())
      for (int what : new int[] {-1, 2, 3, MIN, MAX})
        for (int i : new int[] {0, -2, 7}) refused("best(" + what + ", " + i + ")", scene, -2, x -> x.best(what, i));
  }

  private static void bestOfSeven() {
    // STATE goes ahead of BELOW and of no such place.
    for (int what = 0; what < 2; what++) {
      int w = what;
      for (int i : new int[] {-1, 0, 6, 7, -2, MIN, MAX}) refused("best(" + w + ", " + i + ")", Scene.FULL, -3, x -> x.best(w, i));
    }
  }

  private static void bestPlace() {
    for (Scene scene : new Scene[] {Scene.NOTHING, Scene.TWO, Scene.SIX}) {
      int none = make(scene).count(0);
      for (int what = 0; what < 2; what++) {
        int w = what;
        for (int i : new int[] {-2, -3, MIN}) refused("best(" + w + ", " + i + ")", scene, -4, x -> x.best(w, i));
        for (int i : new int[] {none, none + 1, MAX}) refused("best(" + w + ", " + i + ")", scene, -1, x -> x.best(w, i));
      }
    }
  }

  private static void bestHour() {
    noSuchGoer("bestHour", -1, (x, g, none) -> x.bestHour(g), 0);
  }

  private static void without() {
    noSuchGoer("without", REFUSED + 1, (x, g, none) -> x.without(g), 0);
  }

  private static void second() {
    for (Scene scene : Scene.values())
      for (int cell : new int[] {-1, 40, 41, MIN, MAX})
        nothingChanges("second(" + cell + ")", scene, -1, REFUSED + 1, x -> x.second(cell));
  }

  private static void net() {
    noSuchGoer("net", REFUSED + 1, (x, g, none) -> x.net(g), 0);
  }

  private static void near() {
    // The HOUR's REFUSALS go ahead of no such CELL.
    for (Scene scene : new Scene[] {Scene.NOTHING, Scene.TWO}) {
      for (int cell : new int[] {0, 39, -1, 40}) {
        for (int hour : BELOW_0) refused("near(" + hour + ", " + cell + ")", scene, -4, x -> x.near(hour, cell));
        for (int hour : new int[] {12, MAX}) refused("near(" + hour + ", " + cell + ")", scene, -6, x -> x.near(hour, cell));
      }
      for (int cell : new int[] {-1, 40, MIN, MAX}) {
        refused("near(0, " + cell + ")", scene, -1, x -> x.near(0, cell));
        refused("near(11, " + cell + ")", scene, -1, x -> x.near(11, cell));
      }
    }
  }

  private static void midwife() {
    for (Scene scene : Scene.values())
      for (int cell : new int[] {-1, 40, 41, MIN, MAX}) refused("midwife(" + cell + ")", scene, -1, x -> x.midwife(cell));
  }

  private static void whoHad() {
    noSuchGoer("whoHad", -1, (x, g, w) -> x.whoHad(g, w), 0, 1, -1, 2);
    for (int what : new int[] {-1, 2, 3, MIN, MAX}) {
      refused("whoHad(0, " + what + ")", Scene.TWO, -2, x -> x.whoHad(0, what));
      refused("whoHad(6, " + what + ")", Scene.FULL, -2, x -> x.whoHad(6, what));
    }
  }

  private static void row() {
    for (Scene scene : new Scene[] {Scene.NOTHING, Scene.TWO}) {
      for (int v : BELOW_0) refused("row(" + v + ")", scene, -4, x -> x.row(v));
      for (int v : new int[] {100, 101, MAX}) refused("row(" + v + ")", scene, -6, x -> x.row(v));
    }
  }

  private static void rowWhenFull() {
    for (int v : BELOW_0) refused("row(" + v + ")", Scene.FULL, -4, x -> x.row(v));
    for (int v : new int[] {0, 99, 100, MAX}) refused("row(" + v + ")", Scene.FULL, -6, x -> x.row(v));
  }

  private static void lots() {
    // How many nights goes ahead of another what.
    for (Scene scene : new Scene[] {Scene.NOTHING, Scene.TWO}) {
      for (int what : new int[] {0, 1, 2, -1}) {
        for (int n : new int[] {0, -1, MIN}) refused("lots(" + n + ", 5, " + what + ")", scene, -4, x -> x.lots(n, 5, what));
        for (int n : new int[] {21, 22, MAX}) refused("lots(" + n + ", 5, " + what + ")", scene, -6, x -> x.lots(n, 5, what));
      }
      for (int what : new int[] {-1, 2, 3, MIN, MAX}) {
        refused("lots(1, 5, " + what + ")", scene, -2, x -> x.lots(1, 5, what));
        refused("lots(20, 5, " + what + ")", scene, -2, x -> x.lots(20, 5, what));
      }
    }
  }

  private static void on() {
    LightAsFarAsThePump x = new LightAsFarAsThePump();
    tell(x, "p05;gg1020304;");
    Due.is("night", x.night(), 2);
    x.row(5);
    tell(x, "d7;");
    int[] before = readable(x);
    Due.is("on without an image", x.on(), -3);
    Due.is("and again", x.on(), -3);
    alike("on without an image, REFUSALS", refusals(x), new int[] {0, 0, 2, 0, 0, 0});
    alike("on without an image", readable(x), before);
    Due.is("the ROW is as it was", x.judge(), -9);
    Due.is("the letters are as they were", x.night(), 1);
    Due.is("an image", x.image(), 1);
    Due.is("on from it", x.on(), 1);
    Due.is("no further REFUSAL", x.count(13), 2);
  }

  private static void refusedOftenIsCountedOften() {
    LightAsFarAsThePump x = new LightAsFarAsThePump();
    for (int i = 0; i < 80; i++) {
      x.goer(0, 0);
      x.sums(7);
      x.on();
      x.lamp(-1);
      x.lamp(12);
    }
    alike("eighty of each", refusals(x), new int[] {80, 80, 80, 80, 0, 80});
    // A REFUSAL told as 1000000001 is one of -1.
    x.without(0);
    x.second(40);
    x.net(0);
    Due.is("count(11)", x.count(11), 83);
  }

  private static void asked(String name, Scene scene, Call call) {
    nothingChanges(name, scene, 0, call.on(make(scene)), call);
  }

  private static void askingChangesNothing() {
    for (Scene scene : Scene.values()) {
      for (int what = 0; what < 7; what++) { int w = what; asked("sums", scene, x -> x.sums(w)); }
      asked("lamp", scene, x -> x.lamp(11));
      asked("bestPump", scene, x -> x.bestPump());
      asked("second", scene, x -> x.second(3));
      asked("bestSecond", scene, x -> x.bestSecond());
      asked("payments", scene, x -> x.payments());
      asked("near", scene, x -> x.near(3, 3));
      asked("midwife", scene, x -> x.midwife(3));
      asked("watch", scene, x -> x.watch());
      asked("leastOil", scene, x -> x.leastOil());
      asked("lots, COST", scene, x -> x.lots(20, 3, 0));
      asked("lots, how often", scene, x -> x.lots(20, 3, 1));
      asked("count", scene, x -> x.count(4));
      if (scene != Scene.FULL) asked("best", scene, x -> x.best(0, -1));
      if (scene != Scene.FULL) asked("best at cockcrow", scene, x -> x.best(1, -1));
      if (scene != Scene.NOTHING) askingOfOneChangesNothing(scene);
    }
  }

  private static void askingOfOneChangesNothing(Scene scene) {
    for (int goer = 0; goer < make(scene).count(0); goer++) {
      int g = goer;
      asked("of", scene, x -> x.of(g, 2));
      asked("bestHour", scene, x -> x.bestHour(g));
      asked("without", scene, x -> x.without(g));
      asked("net", scene, x -> x.net(g));
      asked("whoHad, KINDS", scene, x -> x.whoHad(g, 0));
      asked("whoHad, FIGURES", scene, x -> x.whoHad(g, 1));
    }
  }

  private static void whatIsNotRefusedIsNotCounted() {
    // -9 is an answer, a FAULT is one, another what of count() is one: none of them is a REFUSAL.
    LightAsFarAsThePump x = new LightAsFarAsThePump();
    Due.is("nobody had it", x.sums(6), -9);
    Due.is("a FAULT", x.night(), -1000);
    tell(x, "p40;");
    Due.is("a FAULT of kind 2", x.night(), -2000);
    Due.is("nothing to judge", x.judge(), -9);
    tell(x, "gg0202500;");
    x.night();
    Due.is("no ORDER allowed", x.best(1, -1), -9);
    for (int what : new int[] {-1, 7, 8, 9, 10, 17, 18, MIN, MAX}) Due.is("count(" + what + ")", x.count(what), -9);
    alike("no REFUSAL", refusals(x), new int[6]);
  }
}
