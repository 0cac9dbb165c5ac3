/** The boundary cases of the terms, and of promise 1. */
public final class StartBoundariesTest {
  private static final int LOW = Due.LOW;
  private static final int HIGH = Due.HIGH;

  public static void main(String[] args) {
    cellsAndRegistersHoldEveryInt();
    sumsWrap();
    differencesWrap();
    productsWrap();
    wrapInALoop();
    thirtyInstructionsRun();
    newProgramIsEmpty();
    newCellsAreZero();
    newRegistersAreZero();
    lastCallIsPromised();
    Due.end();
  }

  private static void cellsAndRegistersHoldEveryInt() {
    Due.about("all ints");
    for (int value : new int[] {LOW, LOW + 1, -1, 0, 1, HIGH - 1, HIGH}) {
      PowerFailCore core = Due.program(PowerFailCore.LOAD, 3, 0, 0, PowerFailCore.STORE, 3, 11, 0,
          PowerFailCore.SET, 2, value, 0, PowerFailCore.STORE, 2, 10, 0);
      core.setCell(0, value);
      core.run(40);
      Due.same("register(3) by LOAD", core.register(3), value);
      Due.same("cell(11) by STORE", core.cell(11), value);
      Due.same("register(2) by SET", core.register(2), value);
      Due.same("cell(10) by STORE", core.cell(10), value);
    }
  }

  private static void due(int op, int s, int t, int want) {
    PowerFailCore core = Due.program(PowerFailCore.SET, 1, s, 0, PowerFailCore.SET, 2, t, 0, op, 0, 1, 2);
    core.run(40);
    Due.same("operation " + op + " of " + s + " and " + t, core.register(0), want);
  }

  private static void sumsWrap() {
    Due.about("a sum wraps");
    due(PowerFailCore.ADD, HIGH - 1, 1, HIGH);
    due(PowerFailCore.ADD, HIGH, 1, LOW);
    due(PowerFailCore.ADD, 1, HIGH, LOW);
    due(PowerFailCore.ADD, HIGH, HIGH, -2);
    due(PowerFailCore.ADD, LOW + 1, -1, LOW);
    due(PowerFailCore.ADD, LOW, -1, HIGH);
    due(PowerFailCore.ADD, LOW, LOW, 0);
  }

  private static void differencesWrap() {
    Due.about("a difference wraps");
    due(PowerFailCore.SUB, LOW + 1, 1, LOW);
    due(PowerFailCore.SUB, LOW, 1, HIGH);
    due(PowerFailCore.SUB, HIGH - 1, -1, HIGH);
    due(PowerFailCore.SUB, HIGH, -1, LOW);
    due(PowerFailCore.SUB, -1, LOW, HIGH);
    due(PowerFailCore.SUB, 0, LOW, LOW);
    due(PowerFailCore.SUB, LOW, HIGH, 1);
    due(PowerFailCore.SUB, HIGH, LOW, -1);
  }

  private static void productsWrap() {
    Due.about("a product wraps");
    due(PowerFailCore.MUL, 46340, 46340, 2147395600);
    due(PowerFailCore.MUL, 46341, 46341, -2147479015);
    due(PowerFailCore.MUL, 32768, -65536, LOW);
    due(PowerFailCore.MUL, 32769, -65536, 2147418112);
    due(PowerFailCore.MUL, 65536, 65536, 0);
    due(PowerFailCore.MUL, HIGH, HIGH, 1);
    due(PowerFailCore.MUL, HIGH, -1, LOW + 1);
    due(PowerFailCore.MUL, LOW, -1, LOW);
    due(PowerFailCore.MUL, LOW, LOW, 0);
    due(PowerFailCore.MUL, HIGH, 2, -2);
  }

  private static void wrapInALoop() {
    Due.about("a product wraps again and again");
    PowerFailCore core = Due.program(PowerFailCore.SET, 0, 3, 0, PowerFailCore.LOOP, 5, 0, 0,
        PowerFailCore.MUL, 0, 0, 0, PowerFailCore.END, 0, 0, 0);
    core.run(40);
    Due.same("3 squared five times", core.register(0), -501334399);
  }

  private static void thirtyInstructionsRun() {
    Due.about("up to 30 instructions");
    PowerFailCore core = new PowerFailCore();
    for (int i = 1; i <= 30; i++) {
      core.emit(PowerFailCore.SET, i & 3, i, 0);
    }
    core.emit(PowerFailCore.SET, 2, 31, 0);
    Due.same("run(40) of 30", core.run(40), 30);
    Due.registers("the last four of 30", core, 28, 29, 30, 27);
  }

  private static void newProgramIsEmpty() {
    Due.about("an empty program");
    Due.same("retract()", new PowerFailCore().retract(), -1);
    Due.same("sound()", new PowerFailCore().sound(), true);
    Due.same("run(40)", new PowerFailCore().run(40), 0);
    Due.same("emit", new PowerFailCore().emit(PowerFailCore.SET, 0, 0, 0), 1);
  }

  private static void newCellsAreZero() {
    Due.about("all cells 0");
    Due.cells("new", new PowerFailCore(), new int[12]);
    for (int c = 0; c < 12; c++) {
      PowerFailCore core = Due.program(PowerFailCore.SET, 0, 5, 0, PowerFailCore.LOAD, 0, c, 0);
      core.run(40);
      Due.same("LOAD of cell " + c, core.register(0), 0);
    }
  }

  private static void newRegistersAreZero() {
    Due.about("all registers 0");
    Due.registers("new", new PowerFailCore(), 0, 0, 0, 0);
    for (int r = 0; r < 4; r++) {
      PowerFailCore core = Due.program(PowerFailCore.STORE, r, 11, 0);
      core.setCell(11, 5);
      core.run(40);
      Due.same("STORE of register " + r, core.cell(11), 0);
    }
  }

  private static void lastCallIsPromised() {
    Due.about("at most 512 calls");
    PowerFailCore core = Due.program(PowerFailCore.SET, 1, 1, 0, PowerFailCore.LOAD, 0, 0, 0,
        PowerFailCore.ADD, 0, 0, 1, PowerFailCore.STORE, 0, 0, 0);
    for (int call = 5; call <= 510; call++) {
      Due.same("run(" + call + ") as call " + call, core.run(call), 4);
    }
    Due.same("cell(0) as call 511", core.cell(0), 506);
    Due.same("register(0) as call 512", core.register(0), 506);
  }
}
