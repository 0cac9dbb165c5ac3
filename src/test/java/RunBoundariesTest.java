import java.lang.reflect.Field;

/** The boundary cases of promise 6, and of the instructions. */
public final class RunBoundariesTest {
  private static final int LOW = Due.LOW;
  private static final int HIGH = Due.HIGH;
  private static final int[] PERIODS = {LOW, -1, 0, 1, 38, 39, 40, 41, 99, 100, 101, 102, HIGH};

  // The ticks that it takes to wake, and to do and save one SET.
  private static final int WAKING = 12;
  private static final int SETTING = 14;

  public static void main(String[] args) throws ReflectiveOperationException {
    unsoundOfEachKindChangesNothing();
    everyPeriodGivesTheSame();
    periodIsClamped();
    powerFailsAfterEachPeriod();
    emptyProgram();
    loopCountsOnceFromOutside();
    endCountsOnceAPass();
    leftOutDoNotCount();
    leftOutToTheEnd();
    leftOutToTheEndOfALoop();
    notGreaterThanZero();
    oneToSixPasses();
    indexIsMasked();
    registersStartAtZero();
    cellsStartAsTheyWere();
    refusedRunIsNoStart();
    longestRun();
    Due.end();
  }

  private static void unsoundOfEachKindChangesNothing() {
    Due.about("UNSOUND, with nothing changed");
    int[][] endings = {{PowerFailCore.LOOP, 1, 0, 0}, {PowerFailCore.END, 0, 0, 0}, {PowerFailCore.IFPOS, 0, 1, 0}};
    for (int[] ending : endings) {
      PowerFailCore core = Due.program(PowerFailCore.SET, 0, 5, 0, PowerFailCore.STORE, 0, 1, 0);
      core.run(40);
      core.setCell(1, 6);
      Due.feed(core, ending);
      for (int period : PERIODS) {
        Due.same("run(" + period + ")", core.run(period), -3);
        Due.same("sound()", core.sound(), false);
        Due.registers("after it", core, 5, 0, 0, 0);
        Due.cells("after it", core, 0, 6, 0, 0, 0, 0, 0, 0, 0, 0, 0, 0);
      }
      Due.same("retract()", core.retract(), 2);
      Due.same("run(40)", core.run(40), 2);
      Due.same("cell(1)", core.cell(1), 5);
    }
    Due.same("three loops in each other", Due.programOf("((()))").run(40), -3);
    Due.same("a LOOP that may be left out", Due.programOf("1()").run(40), -3);
    Due.same("an END that may be left out", Due.programOf("(1)").run(40), -3);
  }

  private static void everyPeriodGivesTheSame() {
    Due.about("how long it takes does not show");
    for (int period : PERIODS) {
      PowerFailCore core = Due.program(PowerFailCore.SET, 1, 1, 0, PowerFailCore.LOOP, 6, 0, 0,
          PowerFailCore.LOOP, 6, 0, 0, PowerFailCore.LOAD, 0, 11, 0, PowerFailCore.ADD, 0, 0, 1,
          PowerFailCore.STORE, 0, 11, 0, PowerFailCore.END, 0, 0, 0, PowerFailCore.END, 0, 0, 0);
      core.setCell(11, -3);
      Due.same("run(" + period + ")", core.run(period), 2 + 6 * (1 + 6 * 4 + 1));
      Due.same("cell(11) after run(" + period + ")", core.cell(11), 33);
      Due.registers("after run(" + period + ")", core, 33, 1, 0, 0);
    }
  }

  /** Neither the period nor a failure shows in an answer, so this looks inside. */
  private static int ticksLeft(PowerFailCore core) throws ReflectiveOperationException {
    Field field = PowerFailCore.class.getDeclaredField("ticksLeft");
    field.setAccessible(true);
    return field.getInt(core);
  }

  private static void periodIsClamped() throws ReflectiveOperationException {
    Due.about("period, clamped into 40..100");
    for (int period : PERIODS) {
      PowerFailCore core = Due.programOf("s");
      core.run(period);
      int clamped = Math.max(40, Math.min(100, period));
      Due.same("ticks left of run(" + period + ")", ticksLeft(core), clamped - WAKING - SETTING);
    }
  }

  private static void powerFailsAfterEachPeriod() throws ReflectiveOperationException {
    Due.about("the power fails whenever the machine has worked for period ticks");
    for (int period = 40; period <= 100; period++) {
      int perPower = (period - WAKING) / SETTING;
      for (int sets = 1; sets <= 30; sets++) {
        PowerFailCore core = Due.programOf("s".repeat(sets));
        Due.same("run(" + period + ") of " + sets, core.run(period), sets);
        int inTheLast = 1 + (sets - 1) % perPower;
        Due.same("ticks left of run(" + period + ") of " + sets, ticksLeft(core),
            period - WAKING - SETTING * inTheLast);
      }
    }
  }

  private static void emptyProgram() {
    Due.about("the empty program");
    PowerFailCore core = Due.program(PowerFailCore.SET, 0, 5, 0);
    core.setCell(0, 8);
    core.run(40);
    core.retract();
    for (int period : PERIODS) {
      Due.same("run(" + period + ")", core.run(period), 0);
    }
    Due.registers("after it", core, 0, 0, 0, 0);
    Due.same("cell(0)", core.cell(0), 8);
  }

  private static void loopCountsOnceFromOutside() {
    Due.about("LOOP once each time it is come to from outside its loop");
    Due.same("LOOP 1", Due.program(9, 1, 0, 0, 10, 0, 0, 0).run(40), 1 + 1);
    Due.same("LOOP 6", Due.program(9, 6, 0, 0, 10, 0, 0, 0).run(40), 1 + 6);
    Due.same("LOOP 1 in LOOP 6", Due.program(9, 6, 0, 0, 9, 1, 0, 0, 10, 0, 0, 0, 10, 0, 0, 0).run(40), 1 + 6 * 3);
    Due.same("LOOP 6 in LOOP 1", Due.program(9, 1, 0, 0, 9, 6, 0, 0, 10, 0, 0, 0, 10, 0, 0, 0).run(40), 1 + 8);
    Due.same("two LOOP 2 in LOOP 2", Due.programOf("(()())").run(40), 1 + 2 * (3 + 3 + 1));
    Due.same("two LOOP 2 one after the other", Due.programOf("()()").run(40), 3 + 3);
  }

  private static void endCountsOnceAPass() {
    Due.about("END once a pass");
    for (int n = 1; n <= 6; n++) {
      Due.same("LOOP " + n + " over one", Due.program(9, n, 0, 0, 0, 0, 0, 0, 10, 0, 0, 0).run(40), 1 + 2 * n);
      for (int m = 1; m <= 6; m++) {
        PowerFailCore core = Due.program(9, n, 0, 0, 9, m, 0, 0, 10, 0, 0, 0, 10, 0, 0, 0);
        Due.same("LOOP " + m + " in LOOP " + n, core.run(40), 1 + n * (1 + m + 1));
      }
    }
  }

  private static void leftOutDoNotCount() {
    Due.about("instructions left out don't count");
    for (int n = 1; n <= 6; n++) {
      String rest = n + "s".repeat(n) + "ss";
      Due.same("IFPOS over " + n, Due.programOf(rest).run(40), 1 + 2);
      Due.same("IFPOS over " + n + " in a loop", Due.programOf("(" + rest + ")").run(40), 1 + 2 * (1 + 2 + 1));
    }
  }

  private static void leftOutToTheEnd() {
    Due.about("all up to the end of the program is left out");
    for (int n = 1; n <= 6; n++) {
      PowerFailCore core = new PowerFailCore();
      Due.feed(core, PowerFailCore.SET, 3, 7, 0, PowerFailCore.IFPOS, 0, n, 0);
      for (int i = 0; i < n; i++) {
        Due.feed(core, PowerFailCore.SET, 3, i, 0);
      }
      Due.same("IFPOS over the last " + n, core.run(40), 2);
      Due.same("register(3)", core.register(3), 7);
    }
    PowerFailCore full = Due.programOf("s".repeat(23) + "6ssssss");
    Due.same("IFPOS over the last six of 30", full.run(40), 24);
  }

  private static void leftOutToTheEndOfALoop() {
    Due.about("all up to the END is left out");
    for (int n = 1; n <= 6; n++) {
      Due.same("in a loop, " + n, Due.programOf("(" + n + "s".repeat(n) + ")").run(40), 1 + 2 * (1 + 1));
      Due.same("in two, " + n, Due.programOf("((" + n + "s".repeat(n) + "))").run(40), 1 + 2 * (1 + 2 * 2 + 1));
    }
  }

  private static void notGreaterThanZero() {
    Due.about("if register r is not greater than 0");
    for (int r = 0; r <= 3; r++) {
      for (int value : new int[] {LOW, -1, 0, 1, HIGH}) {
        PowerFailCore core = Due.program(PowerFailCore.SET, r, value, 0, PowerFailCore.IFPOS, r, 1, 0,
            PowerFailCore.SET, 3 - r, 9, 0);
        Due.same("run with " + value, core.run(40), value > 0 ? 3 : 2);
        Due.same("register(" + (3 - r) + ") with " + value, core.register(3 - r), value > 0 ? 9 : 0);
        Due.same("register(" + r + ")", core.register(r), value);
      }
    }
  }

  private static void oneToSixPasses() {
    Due.about("the instructions up to the matching END are passed n times");
    for (int n = 1; n <= 6; n++) {
      for (int m = 1; m <= 6; m++) {
        PowerFailCore core = Due.program(PowerFailCore.SET, 3, 1, 0, PowerFailCore.LOOP, n, 0, 0,
            PowerFailCore.ADD, 0, 0, 3, PowerFailCore.LOOP, m, 0, 0, PowerFailCore.ADD, 1, 1, 3,
            PowerFailCore.END, 0, 0, 0, PowerFailCore.ADD, 2, 2, 3, PowerFailCore.END, 0, 0, 0);
        core.run(40);
        Due.registers("LOOP " + m + " in LOOP " + n, core, n, n * m, n, 1);
      }
    }
  }

  private static void indexIsMasked() {
    Due.about("the cell number (register s & 7)");
    int[] indexes = {0, 7, 8, 11, 12, 15, 16, -1, -7, -8, -9, LOW, LOW + 7, HIGH - 7, HIGH};
    int[] cells = {0, 7, 0, 3, 4, 7, 0, 7, 1, 0, 7, 0, 7, 0, 7};
    for (int i = 0; i < indexes.length; i++) {
      PowerFailCore core = Due.program(PowerFailCore.SET, 3, indexes[i], 0, PowerFailCore.LOADX, 0, 3, 0,
          PowerFailCore.STOREX, 3, 3, 0);
      int[] want = new int[12];
      for (int c = 0; c <= 11; c++) {
        want[c] = 100 + c;
        core.setCell(c, want[c]);
      }
      core.run(40);
      Due.same("LOADX by " + indexes[i], core.register(0), 100 + cells[i]);
      want[cells[i]] = indexes[i];
      Due.cells("STOREX by " + indexes[i], core, want);
    }
  }

  private static void registersStartAtZero() {
    Due.about("from all registers 0");
    PowerFailCore core = Due.program(PowerFailCore.STORE, 0, 0, 0, PowerFailCore.STORE, 1, 1, 0,
        PowerFailCore.STORE, 2, 2, 0, PowerFailCore.STORE, 3, 3, 0);
    for (int r = 0; r <= 3; r++) {
      Due.feed(core, PowerFailCore.SET, r, 10 + r, 0);
    }
    for (int run = 1; run <= 3; run++) {
      for (int c = 0; c <= 3; c++) {
        core.setCell(c, 5);
      }
      Due.same("run(40) number " + run, core.run(40), 8);
      Due.cells("run number " + run, core, 0, 0, 0, 0);
      Due.registers("run number " + run, core, 10, 11, 12, 13);
    }
  }

  private static void cellsStartAsTheyWere() {
    Due.about("the cells as they were");
    for (int c = 0; c <= 11; c++) {
      PowerFailCore core = Due.program(PowerFailCore.LOAD, 0, c, 0, PowerFailCore.SET, 1, 3, 0,
          PowerFailCore.MUL, 0, 0, 1, PowerFailCore.STORE, 0, c, 0);
      core.setCell(c, HIGH);
      int want = HIGH;
      for (int run = 1; run <= 3; run++) {
        want *= 3;
        core.run(40);
        Due.same("cell(" + c + ") after run " + run, core.cell(c), want);
      }
      core.setCell(c, 1);
      core.run(40);
      Due.same("cell(" + c + ") set and run", core.cell(c), 3);
    }
  }

  private static void refusedRunIsNoStart() {
    Due.about("a refused run does nothing of its program");
    PowerFailCore core = Due.program(PowerFailCore.LOAD, 0, 0, 0, PowerFailCore.SET, 1, 1, 0,
        PowerFailCore.ADD, 0, 0, 1, PowerFailCore.STORE, 0, 0, 0, PowerFailCore.LOOP, 6, 0, 0);
    Due.same("run(40)", core.run(40), -3);
    Due.same("cell(0)", core.cell(0), 0);
    Due.registers("before any run", core, 0, 0, 0, 0);
    core.emit(PowerFailCore.END, 0, 0, 0);
    Due.same("run(40) with the END", core.run(40), 4 + 1 + 6);
    Due.same("cell(0)", core.cell(0), 1);
  }

  private static void longestRun() {
    Due.about("30 instructions, two loops of 6");
    for (int period : PERIODS) {
      PowerFailCore core = Due.program(PowerFailCore.LOOP, 6, 0, 0, PowerFailCore.LOOP, 6, 0, 0,
          PowerFailCore.LOAD, 0, 11, 0, PowerFailCore.SET, 1, 1, 0);
      for (int i = 0; i < 23; i++) {
        Due.feed(core, PowerFailCore.ADD, 0, 0, 1);
      }
      Due.feed(core, PowerFailCore.STORE, 0, 11, 0, PowerFailCore.END, 0, 0, 0, PowerFailCore.END, 0, 0, 0);
      Due.same("run(" + period + ")", core.run(period), 1 + 6 * (1 + 6 * 27 + 1));
      Due.same("cell(11)", core.cell(11), 36 * 23);
    }
  }
}
