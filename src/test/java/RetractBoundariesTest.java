/** The boundary cases of promise 3. */
public final class RetractBoundariesTest {
  public static void main(String[] args) {
    noneInANewObject();
    lastOneAndThenNone();
    noneLeavesAllAsItIs();
    fromAFullProgram();
    refusedEmitIsNotTakenAway();
    noneAfterClear();
    Due.end();
  }

  private static void noneInANewObject() {
    Due.about("BAD if there was none");
    PowerFailCore core = new PowerFailCore();
    Due.same("retract()", core.retract(), -1);
    Due.same("retract() again", core.retract(), -1);
    Due.same("emit", core.emit(PowerFailCore.SET, 0, 0, 0), 1);
  }

  private static void lastOneAndThenNone() {
    Due.about("the last one, and then none");
    PowerFailCore core = Due.programOf("ss");
    Due.same("retract() of two", core.retract(), 1);
    Due.same("retract() of one", core.retract(), 0);
    Due.same("retract() of none", core.retract(), -1);
    Due.same("run(40)", core.run(40), 0);
  }

  private static void noneLeavesAllAsItIs() {
    Due.about("a refused retract changes nothing");
    PowerFailCore core = Due.program(PowerFailCore.SET, 3, 7, 0, PowerFailCore.STORE, 3, 11, 0);
    core.run(40);
    core.retract();
    core.retract();
    Due.same("retract()", core.retract(), -1);
    Due.same("sound()", core.sound(), true);
    Due.registers("after it", core, 0, 0, 0, 7);
    Due.cells("after it", core, 0, 0, 0, 0, 0, 0, 0, 0, 0, 0, 0, 7);
  }

  private static void fromAFullProgram() {
    Due.about("from 30 to none");
    PowerFailCore core = Due.programOf("s".repeat(30));
    for (int left = 29; left >= 0; left--) {
      Due.same("retract() to " + left, core.retract(), left);
    }
    Due.same("retract() of none", core.retract(), -1);
    for (int number = 1; number <= 30; number++) {
      Due.same("emit number " + number, core.emit(PowerFailCore.SET, 0, 0, 0), number);
    }
    Due.same("emit when full", core.emit(PowerFailCore.SET, 0, 0, 0), -2);
  }

  private static void refusedEmitIsNotTakenAway() {
    Due.about("what was refused is not there to take away");
    PowerFailCore core = Due.programOf("s");
    core.emit(PowerFailCore.LOOP, 0, 0, 0);
    Due.same("retract() after a bad emit", core.retract(), 0);
    core.emit(-1, 0, 0, 0);
    Due.same("retract() after a bad emit alone", core.retract(), -1);
  }

  private static void noneAfterClear() {
    Due.about("none after clear");
    PowerFailCore core = Due.programOf("s".repeat(30));
    core.clear();
    Due.same("retract()", core.retract(), -1);
  }
}
