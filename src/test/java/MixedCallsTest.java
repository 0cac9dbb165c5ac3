import java.util.ArrayDeque;
import java.util.ArrayList;
import java.util.Deque;
import java.util.List;

/**
 * All promises after any calls before: 512 calls of all kinds on each object, good and refused ones,
 * each answer against the words of the document.
 */
public final class MixedCallsTest {
  private static final int OBJECTS = 1500;
  private static final int CALLS = 512;
  private static final int[] EDGES = {Due.LOW, -1, 0, 1, 3, 4, 6, 7, 11, 12, 39, 40, 100, 101, Due.HIGH};

  private static long dice = 8L;
  private static int finishedRuns = 0;
  private static int refusedRuns = 0;
  private static int fullEmits = 0;
  private static int emptyRetracts = 0;

  private final PowerFailCore core = new PowerFailCore();
  private final List<int[]> program = new ArrayList<>();
  private int[] cells = new int[12];
  private int[] registers = new int[4];

  public static void main(String[] args) {
    for (int object = 0; object < OBJECTS; object++) {
      MixedCallsTest test = new MixedCallsTest();
      // Some objects are fed more than is taken away, so that the full program comes up too.
      int retracts = object % 3 == 0 ? 1 : 9;
      int clears = object % 5 == 0 ? 0 : 1;
      for (int call = 1; call <= CALLS; call++) {
        Due.about("object " + object + ", call " + call);
        test.anyCall(retracts, clears);
      }
    }
    Due.about("calls of each kind came up");
    Due.same("finished runs", finishedRuns > 10000, true);
    Due.same("refused runs", refusedRuns > 10000, true);
    Due.same("emit of a full program", fullEmits > 1000, true);
    Due.same("retract of an empty program", emptyRetracts > 100, true);
    Due.end();
  }

  private void anyCall(int retracts, int clears) {
    int kind = roll(100);
    if (kind < clears) {
      clear();
    } else if (kind < 1 + retracts) {
      retract();
    } else if (kind < 20) {
      run(number(35, 105));
    } else if (kind < 27) {
      setCell(number(0, 11), number(-9, 9));
    } else if (kind < 40) {
      int c = number(0, 11);
      Due.same("cell(" + c + ")", core.cell(c), in(c, 0, 11) ? cells[c] : 0);
    } else if (kind < 53) {
      int r = number(0, 3);
      Due.same("register(" + r + ")", core.register(r), in(r, 0, 3) ? registers[r] : 0);
    } else if (kind < 58) {
      Due.same("sound()", core.sound(), sound());
    } else if (sound() || roll(3) > 0) {
      emitAny();
    } else if (openLoops() > 0) {
      emit(PowerFailCore.END, number(0, 3), number(0, 3), number(0, 3));
    } else {
      retract();
    }
  }

  private void emitAny() {
    int op = number(0, 10);
    if (op >= PowerFailCore.IFPOS && roll(3) > 0) {
      // Fewer loops and leavings-out, as most programs would be unsound else.
      op = roll(8);
    }
    int x = op == PowerFailCore.LOOP ? number(1, 6) : number(0, 3);
    int y = switch (op) {
      case PowerFailCore.SET -> number(-9, 9);
      case PowerFailCore.LOAD, PowerFailCore.STORE -> number(0, 11);
      case PowerFailCore.IFPOS -> number(1, 6);
      default -> number(0, 3);
    };
    emit(op, x, y, number(0, 3));
  }

  private void emit(int op, int x, int y, int z) {
    int want;
    if (program.size() == 30) {
      want = PowerFailCore.FULL;
      fullEmits++;
    } else if (good(op, x, y, z)) {
      program.add(new int[] {op, x, y, z});
      want = program.size();
    } else {
      want = PowerFailCore.BAD;
    }
    Due.same("emit(" + op + ", " + x + ", " + y + ", " + z + ")", core.emit(op, x, y, z), want);
  }

  private static boolean good(int op, int x, int y, int z) {
    return switch (op) {
      case 0 -> in(x, 0, 3);
      case 1, 2, 3 -> in(x, 0, 3) && in(y, 0, 3) && in(z, 0, 3);
      case 4, 5 -> in(x, 0, 3) && in(y, 0, 11);
      case 6, 7 -> in(x, 0, 3) && in(y, 0, 3);
      case 8 -> in(x, 0, 3) && in(y, 1, 6);
      case 9 -> in(x, 1, 6);
      case 10 -> true;
      default -> false;
    };
  }

  private void retract() {
    int want = PowerFailCore.BAD;
    if (program.isEmpty()) {
      emptyRetracts++;
    } else {
      program.remove(program.size() - 1);
      want = program.size();
    }
    Due.same("retract()", core.retract(), want);
  }

  private void setCell(int c, int value) {
    Due.same("setCell(" + c + ", " + value + ")", core.setCell(c, value), in(c, 0, 11));
    if (in(c, 0, 11)) {
      cells[c] = value;
    }
  }

  private void run(int period) {
    int want = PowerFailCore.UNSOUND;
    if (sound()) {
      PlainReading plain = new PlainReading(program.toArray(new int[0][]), cells);
      want = plain.executed;
      cells = plain.cells;
      registers = plain.registers;
      finishedRuns++;
    } else {
      refusedRuns++;
    }
    Due.same("run(" + period + ")", core.run(period), want);
  }

  private void clear() {
    core.clear();
    program.clear();
    cells = new int[12];
    registers = new int[4];
  }

  private int openLoops() {
    int open = 0;
    for (int[] i : program) {
      open += i[0] == PowerFailCore.LOOP ? 1 : i[0] == PowerFailCore.END ? -1 : 0;
    }
    return open;
  }

  private boolean sound() {
    Deque<Integer> open = new ArrayDeque<>();
    boolean[] loopOrEnd = new boolean[program.size()];
    boolean loops = true;
    for (int at = 0; at < program.size(); at++) {
      int op = program.get(at)[0];
      loopOrEnd[at] = op == PowerFailCore.LOOP || op == PowerFailCore.END;
      if (op == PowerFailCore.LOOP) {
        open.push(at);
      } else if (op == PowerFailCore.END) {
        loops &= open.poll() != null;
      }
      loops &= open.size() <= 2;
    }
    return loops && open.isEmpty() && leavingsOutAreSound(loopOrEnd);
  }

  private boolean leavingsOutAreSound(boolean[] loopOrEnd) {
    for (int at = 0; at < program.size(); at++) {
      int n = program.get(at)[0] == PowerFailCore.IFPOS ? program.get(at)[2] : 0;
      for (int next = at + 1; next <= at + n; next++) {
        if (next >= program.size() || loopOrEnd[next]) {
          return false;
        }
      }
    }
    return true;
  }

  private static boolean in(int value, int from, int to) {
    return from <= value && value <= to;
  }

  /** A number between the two, or now and then one that may be refused. */
  private static int number(int from, int to) {
    return roll(12) == 0 ? EDGES[roll(EDGES.length)] : from + roll(to - from + 1);
  }

  /** The same throws in every run of the test. */
  private static int roll(int bound) {
    dice = dice * 6364136223846793005L + 1442695040888963407L;
    return (int) ((dice >>> 33) % bound);
  }
}
