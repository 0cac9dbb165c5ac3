import java.util.ArrayList;
import java.util.List;

/** Promise 6, and the meaning of each instruction. */
public final class RunTest {
  private static final int LOW = Integer.MIN_VALUE;
  private static final int HIGH = Integer.MAX_VALUE;
  private static final int[] ODD_PERIODS = {LOW, -1, 0, 1, 39, 101, 1000, HIGH};

  private static long dice = 20261115L;

  public static void main(String[] args) {
    arithmetic();
    moves();
    leavingOut();
    counts();
    unsoundChangesNothing();
    readAndWrittenCellAtEveryPeriod();
    longestProgramAtEveryPeriod();
    madePrograms();
    Due.end();
  }

  private static void arithmetic() {
    int[] values = {LOW, -65536, -3, -1, 0, 1, 2, 7, 65536, HIGH};
    for (int s : values) {
      for (int t : values) {
        PowerFailCore core = Due.program(0, 1, s, 0, 0, 2, t, 0, 1, 0, 1, 2, 5, 0, 0, 0, 2, 0, 1, 2, 5, 0, 1, 0,
            3, 0, 1, 2, 5, 0, 2, 0);
        Due.same("run(40)", core.run(40), 8);
        Due.same(s + " + " + t, core.cell(0), s + t);
        Due.same(s + " - " + t, core.cell(1), s - t);
        Due.same(s + " * " + t, core.cell(2), s * t);
      }
    }
    PowerFailCore self = Due.program(0, 1, 9, 0, 2, 1, 1, 1, 0, 2, 3, 0, 1, 2, 2, 2, 3, 2, 2, 2);
    self.run(40);
    Due.same("a register less itself", self.register(1), 0);
    Due.same("a register doubled and squared", self.register(2), 36);
  }

  private static void moves() {
    for (int index : new int[] {LOW, -9, -8, -1, 0, 3, 7, 8, 11, 12, HIGH}) {
      PowerFailCore core = Due.program(0, 0, index, 0, 6, 1, 0, 0, 0, 2, 500, 0, 7, 2, 0, 0);
      for (int c = 0; c < 12; c++) {
        core.setCell(c, 100 + c);
      }
      Due.same("run(40)", core.run(40), 4);
      Due.same("LOADX by " + index, core.register(1), 100 + (index & 7));
      for (int c = 0; c < 12; c++) {
        Due.same("cell " + c + " after STOREX by " + index, core.cell(c), c == (index & 7) ? 500 : 100 + c);
      }
    }
    PowerFailCore own = Due.program(0, 3, 5, 0, 7, 3, 3, 0, 6, 3, 3, 0, 4, 2, 11, 0, 5, 2, 8, 0);
    own.setCell(11, -4);
    own.run(40);
    Due.same("STOREX and LOADX of a register by itself", own.register(3), 5);
    Due.same("cell(5)", own.cell(5), 5);
    Due.same("cell(8)", own.cell(8), -4);
  }

  private static void leavingOut() {
    for (int value : new int[] {LOW, -1, 0, 1, HIGH}) {
      for (int n = 1; n <= 6; n++) {
        PowerFailCore core = Due.program(0, 3, value, 0, 8, 3, n, 0);
        for (int c = 0; c < 7; c++) {
          Due.feed(core, 5, 3, c, 0);
        }
        core.setCell(n, 7);
        core.setCell(n - 1, 7);
        Due.same("run past IFPOS of " + value + " over " + n, core.run(40), value > 0 ? 9 : 9 - n);
        Due.same("the last that may be left out", core.cell(n - 1), value > 0 ? value : 7);
        Due.same("the first after that", core.cell(n), value);
      }
    }
    PowerFailCore nested = Due.program(0, 1, 1, 0, 8, 1, 2, 0, 8, 0, 3, 0, 0, 2, 5, 0, 0, 2, 6, 0, 0, 2, 7, 0,
        0, 3, 8, 0);
    Due.same("run of one IFPOS in another's reach", nested.run(40), 4);
    Due.same("register(2)", nested.register(2), 0);
    Due.same("register(3)", nested.register(3), 8);
  }

  private static void counts() {
    Due.same("run of the empty program", new PowerFailCore().run(40), 0);
    for (int n = 1; n <= 6; n++) {
      PowerFailCore one = Due.program(9, n, 0, 0, 10, 0, 0, 0);
      Due.same("an empty LOOP " + n, one.run(40), 1 + n);
      for (int m = 1; m <= 6; m++) {
        PowerFailCore two = Due.program(0, 1, 1, 0, 9, n, 0, 0, 9, m, 0, 0, 1, 0, 0, 1, 10, 0, 0, 0, 10, 0, 0, 0);
        Due.same("LOOP " + m + " in LOOP " + n, two.run(40), 2 + n * (1 + 2 * m + 1));
        Due.same("its passes", two.register(0), n * m);
      }
    }
    PowerFailCore side = Due.program(0, 1, 1, 0, 9, 2, 0, 0, 9, 3, 0, 0, 1, 0, 0, 1, 10, 0, 0, 0, 9, 4, 0, 0,
        1, 2, 2, 1, 10, 0, 0, 0, 10, 0, 0, 0, 9, 5, 0, 0, 1, 3, 3, 1, 10, 0, 0, 0);
    Due.same("loops side by side", side.run(40), 1 + 1 + 2 * (1 + 6 + 1 + 8 + 1) + 1 + 10);
    Due.same("passes of the first", side.register(0), 6);
    Due.same("passes of the second", side.register(2), 8);
    Due.same("passes of the third", side.register(3), 5);
  }

  private static void unsoundChangesNothing() {
    PowerFailCore core = Due.program(0, 0, 5, 0, 5, 0, 1, 0);
    core.run(40);
    core.setCell(1, 6);
    Due.feed(core, 9, 3, 0, 0);
    for (int period : ODD_PERIODS) {
      Due.same("run(" + period + ") of an unsound program", core.run(period), -3);
    }
    Due.same("cell(1)", core.cell(1), 6);
    Due.same("register(0)", core.register(0), 5);
    Due.same("emit after it", core.emit(10, 0, 0, 0), 4);
    Due.same("run(40)", core.run(40), 6);
    Due.same("cell(1)", core.cell(1), 5);
  }

  /** A program done anew after a failure would add once too often. */
  private static void readAndWrittenCellAtEveryPeriod() {
    int[][] program = {{0, 1, 1, 0}, {9, 6, 0, 0}, {4, 0, 3, 0}, {1, 0, 0, 1}, {5, 0, 3, 0}, {6, 2, 0, 0}, {1, 2, 2, 0},
        {7, 2, 0, 0}, {10, 0, 0, 0}};
    atEveryPeriod("counting in a cell", program);
  }

  private static void longestProgramAtEveryPeriod() {
    int[][] program = new int[30][];
    program[0] = new int[] {9, 6, 0, 0};
    program[1] = new int[] {9, 6, 0, 0};
    for (int i = 2; i < 28; i += 2) {
      program[i] = new int[] {4, i & 3, i % 12, 0};
      program[i + 1] = new int[] {i % 4 == 0 ? 5 : 1, i & 3, i & 3, 1};
    }
    program[28] = new int[] {10, 0, 0, 0};
    program[29] = new int[] {10, 0, 0, 0};
    Due.same("instructions executed at most", new PlainReading(program, new int[12]).executed, 985);
    atEveryPeriod("the longest program", program);
  }

  private static void madePrograms() {
    for (int number = 0; number < 400; number++) {
      atEveryPeriod("made program " + number, makeProgram());
    }
  }

  private static void atEveryPeriod(String name, int[][] program) {
    for (int period = 40; period <= 100; period++) {
      check(name, program, period);
    }
    for (int period : ODD_PERIODS) {
      check(name, program, period);
    }
  }

  /** Runs a program twice, the second time on what the first has left. */
  private static void check(String name, int[][] program, int period) {
    PowerFailCore core = new PowerFailCore();
    for (int[] i : program) {
      Due.feed(core, i);
    }
    int[] cells = new int[12];
    for (int c = 0; c < 12; c++) {
      cells[c] = 3 * c - 7;
      core.setCell(c, cells[c]);
    }
    for (int run = 1; run <= 2; run++) {
      PlainReading plain = new PlainReading(program, cells);
      cells = plain.cells;
      String call = name + ", run " + run + ", period " + period;
      Due.same(call, core.run(period), plain.executed);
      for (int c = 0; c < 12; c++) {
        Due.same(call + ", cell " + c, core.cell(c), plain.cells[c]);
      }
      for (int r = 0; r < 4; r++) {
        Due.same(call + ", register " + r, core.register(r), plain.registers[r]);
      }
    }
  }

  /** The same throws in every run of the test. */
  private static int roll(int bound) {
    dice = dice * 6364136223846793005L + 1442695040888963407L;
    return (int) ((dice >>> 33) % bound);
  }

  private static int[][] makeProgram() {
    List<int[]> program = new ArrayList<>();
    int length = 1 + roll(30);
    int open = 0;
    int bound = 0;
    while (program.size() + open < length) {
      int room = length - program.size() - open;
      int kind = roll(13);
      if (kind == 0 && open < 2 && room >= 2 && bound == 0) {
        program.add(new int[] {9, 1 + roll(6), roll(9), roll(9)});
        open++;
      } else if (kind == 1 && open > 0 && bound == 0) {
        program.add(new int[] {10, roll(9), roll(9), roll(9)});
        open--;
      } else if (kind == 2 && room >= 2) {
        int n = 1 + roll(Math.min(6, room - 1));
        program.add(new int[] {8, roll(4), n, roll(9)});
        bound = Math.max(bound - 1, n);
        continue;
      } else {
        program.add(plainInstruction());
      }
      bound = Math.max(bound - 1, 0);
    }
    for (; open > 0; open--) {
      program.add(new int[] {10, 0, 0, 0});
    }
    return program.toArray(new int[0][]);
  }

  private static int[] plainInstruction() {
    int op = roll(8);
    int y = op == 0 ? roll(9) - 4 : op == 4 || op == 5 ? roll(12) : roll(4);
    return new int[] {op, roll(4), y, roll(4)};
  }
}
