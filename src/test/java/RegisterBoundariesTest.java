/** The boundary cases of promise 8. */
public final class RegisterBoundariesTest {
  private static final int[] OUTSIDE = {Due.LOW, -4, -1, 4, 5, 11, 12, 256, Due.HIGH};

  public static void main(String[] args) {
    zeroBeforeAnyRun();
    zeroAfterRefusedRunsAlone();
    registersZeroToThree();
    zeroOutside();
    latestRunThatWasNotRefused();
    latestRunIsAnEmptyOne();
    otherCallsLeaveThem();
    Due.end();
  }

  private static PowerFailCore fourSets(int first) {
    PowerFailCore core = new PowerFailCore();
    for (int r = 0; r <= 3; r++) {
      Due.feed(core, PowerFailCore.SET, r, first + r, 0);
    }
    return core;
  }

  private static void zeroBeforeAnyRun() {
    Due.about("0 before any run");
    Due.registers("new", new PowerFailCore(), 0, 0, 0, 0);
    PowerFailCore core = fourSets(10);
    core.setCell(0, 9);
    core.sound();
    Due.registers("with a program and no run", core, 0, 0, 0, 0);
  }

  private static void zeroAfterRefusedRunsAlone() {
    Due.about("a refused run is not any run");
    PowerFailCore core = fourSets(10);
    Due.feed(core, PowerFailCore.END, 0, 0, 0);
    core.run(40);
    core.run(100);
    Due.registers("after refused runs", core, 0, 0, 0, 0);
  }

  private static void registersZeroToThree() {
    Due.about("r in 0..3");
    PowerFailCore core = fourSets(10);
    core.run(40);
    Due.registers("after a run", core, 10, 11, 12, 13);
    for (int r = 0; r <= 3; r++) {
      for (int value : new int[] {Due.LOW, -1, Due.HIGH}) {
        PowerFailCore one = Due.program(PowerFailCore.SET, r, value, 0);
        one.run(40);
        int[] want = new int[4];
        want[r] = value;
        Due.registers("SET " + r + " " + value, one, want);
      }
    }
  }

  /** With loops in the program, as a word past the last register must not be answered. */
  private static void zeroOutside() {
    Due.about("0 for r outside 0..3");
    PowerFailCore core = fourSets(10);
    Due.feed(core, PowerFailCore.LOOP, 6, 0, 0, PowerFailCore.LOOP, 5, 0, 0, PowerFailCore.END, 0, 0, 0,
        PowerFailCore.END, 0, 0, 0);
    for (int r : OUTSIDE) {
      Due.same("register(" + r + ") before any run", core.register(r), 0);
    }
    for (int run = 1; run <= 2; run++) {
      core.run(40);
      for (int r : OUTSIDE) {
        Due.same("register(" + r + ") after run " + run, core.register(r), 0);
      }
    }
  }

  private static void latestRunThatWasNotRefused() {
    Due.about("the latest run that was not refused");
    PowerFailCore core = fourSets(10);
    core.run(40);
    Due.feed(core, PowerFailCore.SET, 0, 20, 0);
    core.run(40);
    Due.registers("after a second run", core, 20, 11, 12, 13);
    Due.feed(core, PowerFailCore.SET, 0, 30, 0, PowerFailCore.LOOP, 1, 0, 0);
    core.run(40);
    Due.registers("after a refused run", core, 20, 11, 12, 13);
    Due.feed(core, PowerFailCore.END, 0, 0, 0);
    core.run(40);
    Due.registers("after a third", core, 30, 11, 12, 13);
  }

  private static void latestRunIsAnEmptyOne() {
    Due.about("the latest run is that of an empty program");
    PowerFailCore core = fourSets(10);
    core.run(40);
    for (int i = 0; i < 4; i++) {
      core.retract();
    }
    Due.registers("before it", core, 10, 11, 12, 13);
    core.run(40);
    Due.registers("after it", core, 0, 0, 0, 0);
  }

  private static void otherCallsLeaveThem() {
    Due.about("only a run changes them");
    PowerFailCore core = fourSets(10);
    core.run(40);
    core.emit(PowerFailCore.SET, 0, 5, 0);
    core.emit(PowerFailCore.SET, 4, 5, 0);
    core.setCell(0, 5);
    core.setCell(12, 5);
    core.sound();
    core.cell(0);
    core.retract();
    core.retract();
    Due.registers("after other calls", core, 10, 11, 12, 13);
  }
}
