/** Promise 4, with programs in the letters of Due.programOf. */
public final class SoundTest {
  public static void main(String[] args) {
    loops();
    leavingOut();
    everyShortProgram();
    Due.end();
  }

  private static void check(String letters, boolean want) {
    PowerFailCore core = Due.programOf(letters);
    Due.same("sound() of \"" + letters + "\"", core.sound(), want);
    Due.same("run of \"" + letters + "\" is refused", core.run(40) == -3, !want);
  }

  private static void loops() {
    check("", true);
    check("s", true);
    check("()", true);
    check("(())", true);
    check("(()())()(s)", true);
    check("((()))", false);
    check("(()(()))", false);
    check("(", false);
    check(")", false);
    check(")(", false);
    check("())(", false);
    check("(()", false);
    check("())", false);
    check("()()()()()()()()()()()()()()()", true);
    check("((ssssssssssssssssssssssssss))", true);
    check("((sssssssssssssssssssssssssss)", false);
  }

  private static void leavingOut() {
    check("1", false);
    check("1s", true);
    check("2s", false);
    check("2ss", true);
    check("6sssss", false);
    check("6ssssss", true);
    check("6sssss(s)", false);
    check("6ssssss(s)", true);
    check("1()", false);
    check("(1)", false);
    check("(1s)", true);
    check("(2s)", false);
    check("(2s)s", false);
    check("1s()", true);
    check("2s()", false);
    check("11s", true);
    check("111", false);
    check("3s1s", true);
    check("31sss", true);
    check("sssssssssssssssssssssssssssss1", false);
    check("ssssssssssssssssssssssss6sssss", false);
    check("sssssssssssssssssssssss6ssssss", true);
  }

  /** Each program of up to six of these letters, against the words of the document. */
  private static void everyShortProgram() {
    String letters = "()s12";
    int programs = 1;
    for (int length = 0; length <= 6; length++) {
      for (int number = 0; number < programs; number++) {
        StringBuilder text = new StringBuilder();
        for (int i = 0, rest = number; i < length; i++, rest /= letters.length()) {
          text.append(letters.charAt(rest % letters.length()));
        }
        check(text.toString(), dueFor(text.toString()));
      }
      programs *= letters.length();
    }
  }

  private static boolean dueFor(String text) {
    String loops = text.replaceAll("[^()]", "");
    boolean paired = loops.matches("(\\((\\(\\))*\\))*");
    return paired && !text.matches(".*1([()].*)?") && !text.matches(".*2(.?|[()].*|.[()].*)");
  }
}
