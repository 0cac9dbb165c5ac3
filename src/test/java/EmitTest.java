/** Promise 2. */
public final class EmitTest {
  private static final int LOW = Integer.MIN_VALUE;
  private static final int HIGH = Integer.MAX_VALUE;
  private static final int[] EDGES = {LOW, -1, 0, 1, 2, 3, 4, 6, 7, 11, 12, HIGH};

  public static void main(String[] args) {
    everyOperandEdge();
    operationsOutside();
    fullComesFirst();
    badLeavesTheProgram();
    Due.end();
  }

  private static boolean in(int value, int from, int to) {
    return from <= value && value <= to;
  }

  /** The words of the document, an operation at a time. */
  private static boolean good(int op, int x, int y, int z) {
    return switch (op) {
      case 0 -> in(x, 0, 3);
      case 1, 2, 3 -> in(x, 0, 3) && in(y, 0, 3) && in(z, 0, 3);
      case 4, 5 -> in(x, 0, 3) && in(y, 0, 11);
      case 6, 7 -> in(x, 0, 3) && in(y, 0, 3);
      case 8 -> in(x, 0, 3) && in(y, 1, 6);
      case 9 -> in(x, 1, 6);
      default -> true;
    };
  }

  private static void everyOperandEdge() {
    for (int op = 0; op <= 10; op++) {
      for (int x : EDGES) {
        for (int y : EDGES) {
          for (int z : EDGES) {
            String call = "emit(" + op + ", " + x + ", " + y + ", " + z + ")";
            PowerFailCore core = new PowerFailCore();
            Due.same(call, core.emit(op, x, y, z), good(op, x, y, z) ? 1 : -1);
          }
        }
      }
    }
  }

  private static void operationsOutside() {
    for (int op : new int[] {LOW, -2, -1, 11, 12, HIGH}) {
      PowerFailCore core = new PowerFailCore();
      Due.same("emit(" + op + ", 1, 1, 1)", core.emit(op, 1, 1, 1), -1);
    }
  }

  private static void fullComesFirst() {
    PowerFailCore core = new PowerFailCore();
    for (int i = 1; i <= 30; i++) {
      Due.same("emit number " + i, core.emit(0, 0, i, 0), i);
    }
    Due.same("emit of a good one when full", core.emit(0, 0, 0, 0), -2);
    Due.same("emit of a bad operation when full", core.emit(11, 0, 0, 0), -2);
    Due.same("emit of a negative operation when full", core.emit(-1, 0, 0, 0), -2);
    Due.same("emit of a bad operand when full", core.emit(0, 4, 0, 0), -2);
    Due.same("run of 30", core.run(40), 30);
    Due.same("register(0) from the 30th", core.register(0), 30);
    Due.same("retract() from 30", core.retract(), 29);
    Due.same("emit of a bad one at 29", core.emit(-1, 0, 0, 0), -1);
    Due.same("emit at 29", core.emit(0, 0, 77, 0), 30);
    Due.same("emit at 30 again", core.emit(0, 0, 78, 0), -2);
    core.run(40);
    Due.same("register(0) from the new 30th", core.register(0), 77);
  }

  private static void badLeavesTheProgram() {
    PowerFailCore core = Due.program(0, 1, 8, 0);
    Due.same("emit(9, 0, 0, 0)", core.emit(9, 0, 0, 0), -1);
    Due.same("emit(0, -1, 0, 0)", core.emit(0, -1, 0, 0), -1);
    Due.same("sound() after bad ones", core.sound(), true);
    Due.same("run(40) after bad ones", core.run(40), 1);
    Due.same("emit after bad ones", core.emit(0, 2, 1, 0), 2);
  }
}
