import java.util.ArrayList;
import java.util.List;

/**
 * No question leaves anything behind: asked behind any other one (itself, too), with or without a change
 * between them, it answers as it does on a new object to which the same was told and nobody else asked.
 */
public final class QuestionsTest {
  private interface Call { int on(LightAsFarAsThePump x); }

  private record Question(String name, Call call) { }

  private static final String SIX = "gg0203501;gd3351002;gm0300503;gc4123804;gt0250105;gl0020506;";
  private static final String[] TEXTS = {"d3;", "gc4243500;", "gg0202500;gd0201501;gg0253002;", SIX, SIX + "gg9393911;"};

  private enum Change { NONE, HOURS, PUMP, NO_OIL, DARK, NIGHT, ON }

  public static void main(String[] args) {
    for (String text : TEXTS) {
      List<Question> all = questions(told(text).count(0));
      for (Change change : Change.values()) anyBehindAny(text, all, change);
    }
    Due.end("QuestionsTest");
  }

  private static LightAsFarAsThePump told(String text) {
    LightAsFarAsThePump x = new LightAsFarAsThePump();
    tell(x, text);
    x.image();
    x.set(1, 60);
    x.row(20);
    x.row(35);
    return x;
  }

  private static void tell(LightAsFarAsThePump x, String text) {
    for (int i = 0; i < text.length(); i++) x.letter(text.charAt(i));
    x.night();
  }

  private static void change(LightAsFarAsThePump x, Change change) {
    switch (change) {
      case HOURS: x.hour(0, 9); x.hour(1, 0); break;
      case PUMP: x.set(0, 24); break;
      case NO_OIL: x.set(1, 0); break;
      case DARK: x.set(2, 8); break;
      case NIGHT: tell(x, "p05;o150;d5;gm0102011;"); tell(x, "x01;"); break;
      case ON: x.on(); break;
      default: break;
    }
  }

  private static List<Question> questions(int goers) {
    List<Question> all = new ArrayList<>();
    for (int what = 0; what < 7; what++) { int w = what; all.add(new Question("sums " + w, x -> x.sums(w))); }
    for (int hour = 0; hour < 12; hour += 3) { int h = hour; all.add(new Question("lamp " + h, x -> x.lamp(h))); }
    for (int i = -1; i < goers; i++) {
      int place = i;
      all.add(new Question("best " + place, x -> x.best(0, place)));
      all.add(new Question("best at cockcrow " + place, x -> x.best(1, place)));
    }
    all.add(new Question("bestPump", x -> x.bestPump()));
    for (int cell = 0; cell < 40; cell += 13) { int c = cell; all.add(new Question("second " + c, x -> x.second(c))); }
    all.add(new Question("bestSecond", x -> x.bestSecond()));
    all.add(new Question("payments", x -> x.payments()));
    all.add(new Question("near", x -> x.near(3, 7)));
    all.add(new Question("midwife", x -> x.midwife(20)));
    all.add(new Question("watch", x -> x.watch()));
    all.add(new Question("leastOil", x -> x.leastOil()));
    all.add(new Question("lots, COST", x -> x.lots(9, -3, 0)));
    all.add(new Question("lots, how often", x -> x.lots(9, -3, 1)));
    all.add(new Question("count", x -> x.count(4)));
    for (int goer = 0; goer < goers; goer += 2) questionsOfOne(all, goer);
    return all;
  }

  private static void questionsOfOne(List<Question> all, int g) {
    for (int what = 0; what < 5; what++) { int w = what; all.add(new Question("of " + g + " " + w, x -> x.of(g, w))); }
    all.add(new Question("goer " + g, x -> x.goer(g, 4)));
    all.add(new Question("bestHour " + g, x -> x.bestHour(g)));
    all.add(new Question("without " + g, x -> x.without(g)));
    all.add(new Question("net " + g, x -> x.net(g)));
    all.add(new Question("whoHad, KINDS " + g, x -> x.whoHad(g, 0)));
    all.add(new Question("whoHad, FIGURES " + g, x -> x.whoHad(g, 1)));
  }

  private static void anyBehindAny(String text, List<Question> all, Change change) {
    for (Question last : all) {
      LightAsFarAsThePump alone = told(text);
      change(alone, change);
      int due = last.call.on(alone);
      for (Question first : all) {
        LightAsFarAsThePump x = told(text);
        first.call.on(x);
        change(x, change);
        Due.is(text + " " + last.name + " behind " + first.name + " and " + change, last.call.on(x), due);
      }
    }
    judgedBehindAny(text, all, change);
  }

  private static void judgedBehindAny(String text, List<Question> all, Change change) {
    LightAsFarAsThePump alone = told(text);
    change(alone, change);
    int due = alone.judge();
    for (Question first : all) {
      LightAsFarAsThePump x = told(text);
      first.call.on(x);
      change(x, change);
      Due.is(text + " judge behind " + first.name + " and " + change, x.judge(), due);
    }
  }
}
