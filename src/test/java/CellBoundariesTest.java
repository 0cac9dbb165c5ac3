/** The boundary cases of promises 5 and 7. */
public final class CellBoundariesTest {
  private static final int[] OUTSIDE = {Due.LOW, -12, -1, 12, 13, 256, Due.HIGH};

  public static void main(String[] args) {
    setCellTakesZeroToEleven();
    setCellRefusesOutside();
    refusedSetCellChangesNothing();
    everyValueIsTaken();
    cellAnswersZeroToEleven();
    cellIsZeroOutside();
    Due.end();
  }

  private static void setCellTakesZeroToEleven() {
    Due.about("setCell in 0..11: true");
    for (int c = 0; c <= 11; c++) {
      PowerFailCore core = new PowerFailCore();
      Due.same("setCell(" + c + ", 5)", core.setCell(c, 5), true);
      int[] want = new int[12];
      want[c] = 5;
      Due.cells("after setCell(" + c + ", 5)", core, want);
    }
  }

  private static void setCellRefusesOutside() {
    Due.about("setCell outside 0..11: refused, answers false");
    for (int c : OUTSIDE) {
      PowerFailCore core = new PowerFailCore();
      Due.same("setCell(" + c + ", 5)", core.setCell(c, 5), false);
      Due.same("setCell(" + c + ", 0)", core.setCell(c, 0), false);
      Due.same("cell(" + c + ")", core.cell(c), 0);
    }
  }

  private static void refusedSetCellChangesNothing() {
    Due.about("a refused setCell changes nothing");
    PowerFailCore core = Due.program(PowerFailCore.SET, 0, 3, 0, PowerFailCore.SET, 3, 4, 0);
    int[] want = new int[12];
    for (int c = 0; c <= 11; c++) {
      want[c] = 100 + c;
      core.setCell(c, want[c]);
    }
    core.run(40);
    for (int c : OUTSIDE) {
      core.setCell(c, 5);
      Due.cells("after setCell(" + c + ", 5)", core, want);
      Due.registers("after setCell(" + c + ", 5)", core, 3, 0, 0, 4);
    }
    Due.same("run(40)", core.run(40), 2);
    Due.same("retract()", core.retract(), 1);
  }

  private static void everyValueIsTaken() {
    Due.about("a cell holds any int");
    PowerFailCore core = new PowerFailCore();
    for (int c : new int[] {0, 11}) {
      for (int value : new int[] {Due.LOW, -1, 0, 1, Due.HIGH}) {
        Due.same("setCell(" + c + ", " + value + ")", core.setCell(c, value), true);
        Due.same("cell(" + c + ")", core.cell(c), value);
      }
    }
  }

  private static void cellAnswersZeroToEleven() {
    Due.about("cell in 0..11: its value, by setCell and by a run");
    for (int c = 0; c <= 11; c++) {
      PowerFailCore core = Due.program(PowerFailCore.LOAD, 0, c, 0, PowerFailCore.ADD, 0, 0, 0,
          PowerFailCore.STORE, 0, c, 0);
      core.setCell(c, 21);
      Due.same("cell(" + c + ") set", core.cell(c), 21);
      core.run(40);
      Due.same("cell(" + c + ") after a run", core.cell(c), 42);
    }
  }

  private static void cellIsZeroOutside() {
    Due.about("cell: 0 for c outside 0..11");
    PowerFailCore core = Due.programOf("s");
    for (int c = 0; c <= 11; c++) {
      core.setCell(c, 9);
    }
    core.run(40);
    for (int c : OUTSIDE) {
      Due.same("cell(" + c + ")", core.cell(c), 0);
    }
    Due.same("cell(0)", core.cell(0), 9);
    Due.same("cell(11)", core.cell(11), 9);
  }
}
