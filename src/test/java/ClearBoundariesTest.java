/** The boundary cases of promise 9: after clear, each call answers as it does on a new object. */
public final class ClearBoundariesTest {
  public static void main(String[] args) {
    newObject();
    clearedTwice();
    fullProgram();
    unsoundProgram();
    refusedRun();
    runOfEveryLength();
    everyCellAndRegister();
    Due.end();
  }

  /** Clears, looks at everything, and then does the same calls on the object and on a new one. */
  private static void clearIsANewStart(String when, PowerFailCore core) {
    core.clear();
    Due.registers(when, core, 0, 0, 0, 0);
    Due.cells(when, core, new int[12]);
    PowerFailCore fresh = new PowerFailCore();
    Due.same(when + ", sound()", core.sound(), true);
    Due.same(when + ", retract()", core.retract(), -1);
    Due.same(when + ", run(40)", core.run(40), 0);
    Due.registers(when + ", after run", core, 0, 0, 0, 0);
    int[][] program = {{PowerFailCore.STORE, 3, 4, 0}, {PowerFailCore.LOOP, 3, 0, 0}, {PowerFailCore.LOAD, 0, 1, 0},
        {PowerFailCore.SET, 1, 2, 0}, {PowerFailCore.ADD, 0, 0, 1}, {PowerFailCore.STORE, 0, 1, 0},
        {PowerFailCore.END, 0, 0, 0}, {PowerFailCore.IFPOS, 2, 1, 0}, {PowerFailCore.SET, 3, 9, 0}};
    for (int[] i : program) {
      String call = when + ", emit of operation " + i[0];
      Due.same(call, core.emit(i[0], i[1], i[2], i[3]), fresh.emit(i[0], i[1], i[2], i[3]));
      Due.same(call + ", run(40)", core.run(40), fresh.run(40));
      for (int c = 0; c <= 11; c++) {
        Due.same(call + ", cell(" + c + ")", core.cell(c), fresh.cell(c));
      }
      for (int r = 0; r <= 3; r++) {
        Due.same(call + ", register(" + r + ")", core.register(r), fresh.register(r));
      }
    }
  }

  private static void newObject() {
    Due.about("clear of a new object");
    clearIsANewStart("new", new PowerFailCore());
  }

  private static void clearedTwice() {
    Due.about("clear of a cleared object");
    PowerFailCore core = Due.programOf("(s)");
    core.run(40);
    core.clear();
    clearIsANewStart("cleared", core);
    clearIsANewStart("used after that", core);
  }

  private static void fullProgram() {
    Due.about("clear of a full program");
    clearIsANewStart("full", Due.programOf("s".repeat(30)));
    PowerFailCore core = Due.programOf("s".repeat(30));
    core.clear();
    for (int number = 1; number <= 30; number++) {
      Due.same("emit number " + number, core.emit(PowerFailCore.SET, 0, 0, 0), number);
    }
    Due.same("emit when full again", core.emit(PowerFailCore.SET, 0, 0, 0), -2);
  }

  private static void unsoundProgram() {
    Due.about("clear of an unsound program");
    clearIsANewStart("an open loop", Due.programOf("("));
    clearIsANewStart("an END alone", Due.programOf(")"));
    clearIsANewStart("three loops", Due.programOf("((()))"));
    clearIsANewStart("an IFPOS at the end", Due.programOf("6"));
  }

  private static void refusedRun() {
    Due.about("clear after a refused run");
    PowerFailCore core = Due.program(PowerFailCore.SET, 3, 7, 0);
    core.run(40);
    Due.feed(core, PowerFailCore.LOOP, 1, 0, 0);
    core.run(40);
    clearIsANewStart("refused", core);
  }

  private static void runOfEveryLength() {
    Due.about("clear after runs of each length");
    for (int length = 1; length <= 30; length++) {
      PowerFailCore core = new PowerFailCore();
      for (int i = 1; i <= length; i++) {
        Due.feed(core, PowerFailCore.SET, i & 3, i, 0);
      }
      core.run(40);
      clearIsANewStart("a run of " + length, core);
    }
  }

  private static void everyCellAndRegister() {
    Due.about("clear of every cell and register");
    for (int value : new int[] {Due.LOW, -1, 1, Due.HIGH}) {
      PowerFailCore core = new PowerFailCore();
      for (int c = 0; c <= 11; c++) {
        core.setCell(c, value);
      }
      for (int r = 0; r <= 3; r++) {
        Due.feed(core, PowerFailCore.SET, r, value, 0);
      }
      core.run(40);
      clearIsANewStart("all " + value, core);
    }
  }
}
