/** Promises 5 and 7. */
public final class CellsTest {
  private static final int LOW = Integer.MIN_VALUE;
  private static final int HIGH = Integer.MAX_VALUE;
  private static final int[] OUTSIDE = {LOW, -12, -1, 12, 13, 22, HIGH};

  public static void main(String[] args) {
    everyCell();
    outside();
    programsSeeThem();
    refusedRunLeavesThem();
    Due.end();
  }

  private static int valueFor(int c) {
    return c == 0 ? LOW : c == 11 ? HIGH : 100 - 17 * c;
  }

  private static void everyCell() {
    PowerFailCore core = new PowerFailCore();
    for (int c = 0; c < 12; c++) {
      Due.same("setCell(" + c + ", ..)", core.setCell(c, valueFor(c)), true);
    }
    for (int c = 0; c < 12; c++) {
      Due.same("cell(" + c + ")", core.cell(c), valueFor(c));
    }
    Due.same("setCell(4, 0)", core.setCell(4, 0), true);
    Due.same("cell(4)", core.cell(4), 0);
    Due.same("cell(3)", core.cell(3), valueFor(3));
    Due.same("cell(5)", core.cell(5), valueFor(5));
  }

  private static void outside() {
    PowerFailCore core = new PowerFailCore();
    for (int c : OUTSIDE) {
      Due.same("setCell(" + c + ", 9)", core.setCell(c, 9), false);
      Due.same("cell(" + c + ")", core.cell(c), 0);
    }
    for (int c = 0; c < 12; c++) {
      Due.same("cell(" + c + ") after refused calls", core.cell(c), 0);
      core.setCell(c, 9);
    }
    for (int c : OUTSIDE) {
      Due.same("cell(" + c + ") when all cells are 9", core.cell(c), 0);
    }
  }

  private static void programsSeeThem() {
    PowerFailCore core = Due.program(4, 0, 11, 0, 1, 0, 0, 0, 5, 0, 11, 0);
    core.setCell(11, 21);
    core.run(40);
    Due.same("cell(11) after a run", core.cell(11), 42);
    core.run(40);
    Due.same("cell(11) after two", core.cell(11), 84);
    core.setCell(11, 1);
    Due.same("register(0) after setCell", core.register(0), 84);
    core.run(40);
    Due.same("cell(11) set and run", core.cell(11), 2);
  }

  private static void refusedRunLeavesThem() {
    PowerFailCore core = Due.program(0, 0, 5, 0, 5, 0, 3, 0, 9, 2, 0, 0);
    core.setCell(3, 8);
    Due.same("run(40)", core.run(40), -3);
    Due.same("cell(3) after a refused run", core.cell(3), 8);
    Due.same("setCell(3, 9) in an unsound program", core.setCell(3, 9), true);
    Due.same("cell(3)", core.cell(3), 9);
  }
}
