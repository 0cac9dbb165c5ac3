/** Promise 3. */
public final class RetractTest {
  public static void main(String[] args) {
    toTheLastAndBeyond();
    takesTheLast();
    leavesCellsAndRegisters();
    Due.end();
  }

  private static void toTheLastAndBeyond() {
    PowerFailCore core = new PowerFailCore();
    Due.same("retract() of none", core.retract(), -1);
    for (int i = 0; i < 30; i++) {
      core.emit(0, 0, i, 0);
    }
    for (int left = 29; left >= 0; left--) {
      Due.same("retract() to " + left, core.retract(), left);
    }
    Due.same("retract() below none", core.retract(), -1);
    Due.same("retract() below none again", core.retract(), -1);
    Due.same("emit after that", core.emit(0, 0, 0, 0), 1);
  }

  private static void takesTheLast() {
    PowerFailCore core = Due.program(0, 0, 5, 0, 0, 0, 6, 0);
    core.retract();
    Due.same("run(40)", core.run(40), 1);
    Due.same("register(0)", core.register(0), 5);
    Due.same("emit in its stead", core.emit(10, 0, 0, 0), 2);
    Due.same("sound() with the END", core.sound(), false);
    core.retract();
    Due.same("sound() without it", core.sound(), true);
  }

  private static void leavesCellsAndRegisters() {
    PowerFailCore core = Due.program(0, 0, 5, 0, 5, 0, 3, 0);
    core.run(40);
    core.retract();
    core.retract();
    core.retract();
    Due.same("cell(3)", core.cell(3), 5);
    Due.same("register(0)", core.register(0), 5);
  }
}
