/** What the tests share: counting of answers that are not due, and telling a text letter by letter. */
final class Due {
  private static int wrong = 0;
  private static int asked = 0;

  private Due() { }

  static void is(String what, long got, long want) {
    asked++;
    if (got != want) {
      wrong++;
      if (wrong <= 50) System.out.println(what + " answered " + got + ", due is " + want);
    }
  }

  static void holds(String what, boolean so) {
    is(what, so ? 1 : 0, 1);
  }

  /** Tells the letters only. */
  static void letters(LightAsFarAsThePump x, String text) {
    int before = x.count(6);
    for (int i = 0; i < text.length(); i++) is("letter " + i + " of " + text, x.letter(text.charAt(i)), before + i + 1);
  }

  /** Tells a text on an object: what night() answers. */
  static int night(LightAsFarAsThePump x, String text) {
    letters(x, text);
    return x.night();
  }

  /** A new object with a text told, that must have no FAULT. */
  static LightAsFarAsThePump told(String text) {
    LightAsFarAsThePump x = new LightAsFarAsThePump();
    holds("no FAULT in " + text, night(x, text) > 0);
    return x;
  }

  static void end(String test) {
    System.out.println(test + ": " + asked + " answers, " + wrong + " not as due");
    if (wrong != 0) System.exit(1);
  }
}
