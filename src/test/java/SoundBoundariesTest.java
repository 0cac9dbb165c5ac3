/** The boundary cases of promise 4, with programs in the letters of Due.programOf. */
public final class SoundBoundariesTest {
  public static void main(String[] args) {
    emptyProgram();
    loopWithoutEnd();
    endWithoutLoop();
    twoOpenNotThree();
    leftOutAreAllThere();
    leftOutAreAllThereInAFullProgram();
    noLoopIsLeftOut();
    noEndIsLeftOut();
    everyIfposCounts();
    operandsAreNoOperations();
    takenAwayInstructionsAreGone();
    askingChangesNothing();
    Due.end();
  }

  private static void check(String letters, boolean want) {
    PowerFailCore core = Due.programOf(letters);
    Due.same("sound() of \"" + letters + "\"", core.sound(), want);
    Due.same("run of \"" + letters + "\" is refused", core.run(40) == -3, !want);
  }

  private static void emptyProgram() {
    Due.about("the empty program");
    check("", true);
  }

  private static void loopWithoutEnd() {
    Due.about("every LOOP has its END");
    check("(", false);
    check("()", true);
    check("(()", false);
    check("(())", true);
    check("()(", false);
    check("()()", true);
    check("s".repeat(29) + "(", false);
    check("s".repeat(28) + "()", true);
    check("(" + "s".repeat(29), false);
    check("(" + "s".repeat(28) + ")", true);
  }

  private static void endWithoutLoop() {
    Due.about("every END its LOOP");
    check(")", false);
    check("())", false);
    check("(()))", false);
    check(")(", false);
    check("())(", false);
    check("())(()", false);
    check("s".repeat(29) + ")", false);
    check(")" + "s".repeat(28) + "(", false);
    check("(" + "s".repeat(27) + "))", false);
  }

  private static void twoOpenNotThree() {
    Due.about("at no place more than two loops are open");
    check("(())", true);
    check("((()))", false);
    check("(()())", true);
    check("(()(()))", false);
    check("(())(())", true);
    check("(())((()))", false);
    check("(()()()()()()()()()()()()()())", true);
    check("(((((((((((((((" + ")))))))))))))))", false);
    check("s".repeat(26) + "(())", true);
    check("s".repeat(24) + "((()))", false);
  }

  private static void leftOutAreAllThere() {
    Due.about("the instructions that IFPOS may leave out are all there");
    for (int n = 1; n <= 6; n++) {
      for (int there = 0; there <= 7; there++) {
        check(n + "s".repeat(there), there >= n);
      }
    }
  }

  private static void leftOutAreAllThereInAFullProgram() {
    Due.about("the instructions that IFPOS may leave out are all there, of 30");
    for (int n = 1; n <= 6; n++) {
      check("s".repeat(29 - n) + n + "s".repeat(n), true);
      check("s".repeat(30 - n) + n + "s".repeat(n - 1), false);
    }
  }

  private static void noLoopIsLeftOut() {
    Due.about("what IFPOS may leave out is no LOOP");
    for (int n = 1; n <= 6; n++) {
      for (int before = 0; before <= 7; before++) {
        check(n + "s".repeat(before) + "(ssssss)ssssss", before >= n);
      }
    }
  }

  private static void noEndIsLeftOut() {
    Due.about("what IFPOS may leave out is no END");
    for (int n = 1; n <= 6; n++) {
      for (int before = 0; before <= 7; before++) {
        check("(" + n + "s".repeat(before) + ")ssssss", before >= n);
        check("((" + n + "s".repeat(before) + ")ssssss)", before >= n);
      }
    }
  }

  private static void everyIfposCounts() {
    Due.about("for every IFPOS, one that is itself left out too");
    check("11", false);
    check("11s", true);
    check("12s", false);
    check("12ss", true);
    check("16sssss", false);
    check("16ssssss", true);
    check("(11)s", false);
    check("(11s)s", true);
    check("654321", false);
    check("654321s", true);
    check("1ss1ss1", false);
    check("1ss1ss1s", true);
  }

  private static void operandsAreNoOperations() {
    Due.about("a number is no LOOP and no END");
    for (int n = PowerFailCore.IFPOS; n <= PowerFailCore.END; n++) {
      PowerFailCore core = Due.program(PowerFailCore.IFPOS, 0, 1, n, PowerFailCore.SET, 0, n, n,
          PowerFailCore.LOAD, 0, n, n);
      Due.same("sound() with operands " + n, core.sound(), true);
    }
  }

  private static void takenAwayInstructionsAreGone() {
    Due.about("what was taken away or cleared plays no part");
    PowerFailCore core = Due.programOf("(1s)");
    Due.same("sound()", core.sound(), true);
    core.retract();
    Due.same("sound() without the END", core.sound(), false);
    core.retract();
    core.retract();
    core.retract();
    Due.same("sound() of none", core.sound(), true);
    Due.feed(core, PowerFailCore.IFPOS, 0, 1, 0);
    Due.same("sound() of IFPOS before what was there", core.sound(), false);
    core.clear();
    Due.same("sound() after clear", core.sound(), true);
    Due.feed(core, PowerFailCore.SET, 0, 0, 0, PowerFailCore.IFPOS, 0, 1, 0);
    Due.same("sound() of IFPOS before what was cleared", core.sound(), false);
  }

  private static void askingChangesNothing() {
    Due.about("asking changes nothing");
    PowerFailCore core = Due.programOf("((s)");
    Due.same("sound()", core.sound(), false);
    Due.same("sound() again", core.sound(), false);
    Due.same("emit of the END", core.emit(PowerFailCore.END, 0, 0, 0), 5);
    Due.same("sound() with it", core.sound(), true);
    Due.same("sound() with it again", core.sound(), true);
    Due.same("run(40)", core.run(40), 1 + 2 * (1 + 4 + 1));
  }
}
