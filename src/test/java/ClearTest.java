/** Promise 9. */
public final class ClearTest {
  public static void main(String[] args) {
    afterARun();
    ofAFullUnsoundProgram();
    ofANewObject();
    Due.end();
  }

  private static void dueAsNew(String when, PowerFailCore core) {
    for (int c = 0; c < 12; c++) {
      Due.same(when + ": cell(" + c + ")", core.cell(c), 0);
    }
    for (int r = 0; r < 4; r++) {
      Due.same(when + ": register(" + r + ")", core.register(r), 0);
    }
    Due.same(when + ": sound()", core.sound(), true);
    Due.same(when + ": retract()", core.retract(), -1);
    Due.same(when + ": run(40)", core.run(40), 0);
  }

  private static void afterARun() {
    for (int length = 0; length < 6; length++) {
      PowerFailCore core = new PowerFailCore();
      for (int c = 0; c < 12; c++) {
        core.setCell(c, c + 1);
      }
      for (int r = 0; r < 4; r++) {
        Due.feed(core, 0, r, r + 9, 0);
      }
      for (int i = 0; i < length; i++) {
        Due.feed(core, 5, 0, i, 0);
      }
      core.run(40);
      core.clear();
      Due.same("cleared: register(3)", core.register(3), 0);
      dueAsNew("cleared", core);
      Due.feed(core, 9, 3, 0, 0, 4, 0, 1, 0, 0, 1, 2, 0, 1, 0, 0, 1, 5, 0, 1, 0, 10, 0, 0, 0);
      Due.same("run after clear", core.run(40), 16);
      Due.same("cell(1) after it", core.cell(1), 6);
    }
  }

  private static void ofAFullUnsoundProgram() {
    PowerFailCore core = new PowerFailCore();
    for (int i = 0; i < 30; i++) {
      core.emit(9, 6, 0, 0);
    }
    core.run(40);
    core.clear();
    dueAsNew("cleared when full", core);
    Due.same("emit after that", core.emit(0, 0, 0, 0), 1);
  }

  private static void ofANewObject() {
    PowerFailCore core = new PowerFailCore();
    core.clear();
    core.clear();
    dueAsNew("cleared when new", core);
  }
}
