/** The boundary cases of promise 2, in the document's order. */
public final class EmitBoundariesTest {
  private static final int LOW = Due.LOW;
  private static final int HIGH = Due.HIGH;
  private static final int[] WILD = {LOW, -1, 0, 1, 12, 30, HIGH};

  public static void main(String[] args) {
    thirtyAreThere();
    fullIsTestedFirst();
    fullAddsNothing();
    operationOutside();
    registerOutside();
    secondRegisterOutside();
    thirdRegisterOutside();
    cellOutside();
    indexRegisterOutside();
    leftOutOutside();
    passesOutside();
    numberOfSetIsFree();
    absentOperandsAreFree();
    absentOperandsPlayNoPartInARun();
    badAddsNothing();
    Due.end();
  }

  private static String call(int op, int x, int y, int z) {
    return "emit(" + op + ", " + x + ", " + y + ", " + z + ")";
  }

  private static void taken(int op, int x, int y, int z) {
    PowerFailCore core = new PowerFailCore();
    Due.same(call(op, x, y, z), core.emit(op, x, y, z), 1);
    Due.same("retract() after " + call(op, x, y, z), core.retract(), 0);
  }

  private static void bad(int op, int x, int y, int z) {
    PowerFailCore core = new PowerFailCore();
    Due.same(call(op, x, y, z), core.emit(op, x, y, z), -1);
    Due.same("retract() after " + call(op, x, y, z), core.retract(), -1);
  }

  private static PowerFailCore withInstructions(int number) {
    PowerFailCore core = new PowerFailCore();
    for (int i = 1; i <= number; i++) {
      Due.same("emit number " + i, core.emit(PowerFailCore.SET, 0, i, 0), i);
    }
    return core;
  }

  private static void thirtyAreThere() {
    Due.about("30 instructions are there");
    for (int op = 0; op <= 10; op++) {
      Due.same(call(op, 1, 1, 1) + " at 29", withInstructions(29).emit(op, 1, 1, 1), 30);
      Due.same(call(op, 1, 1, 1) + " at 30", withInstructions(30).emit(op, 1, 1, 1), -2);
    }
    PowerFailCore core = withInstructions(30);
    core.retract();
    Due.same("a bad one at 29", core.emit(PowerFailCore.SET, 4, 0, 0), -1);
    Due.same("a good one at 29", core.emit(PowerFailCore.SET, 3, 0, 0), 30);
    Due.same("a good one at 30", core.emit(PowerFailCore.SET, 3, 0, 0), -2);
  }

  private static void fullIsTestedFirst() {
    Due.about("FULL is tested before BAD");
    PowerFailCore full = withInstructions(30);
    PowerFailCore almost = withInstructions(29);
    int[][] wrong = {{-1, 0, 0, 0}, {11, 0, 0, 0}, {LOW, 0, 0, 0}, {HIGH, 0, 0, 0}, {0, -1, 0, 0}, {0, 4, 0, 0},
        {1, 0, 4, 0}, {2, 0, 0, 4}, {4, 0, 12, 0}, {6, 0, -1, 0}, {8, 0, 0, 0}, {8, 0, 7, 0}, {9, 0, 0, 0}, {9, 7, 0, 0}};
    for (int[] i : wrong) {
      String call = call(i[0], i[1], i[2], i[3]);
      Due.same(call + " at 29", almost.emit(i[0], i[1], i[2], i[3]), -1);
      Due.same(call + " at 30", full.emit(i[0], i[1], i[2], i[3]), -2);
    }
  }

  private static void fullAddsNothing() {
    Due.about("a full program stays as it is");
    PowerFailCore core = withInstructions(30);
    core.emit(PowerFailCore.LOOP, 1, 0, 0);
    core.emit(PowerFailCore.SET, 0, 99, 0);
    Due.same("sound()", core.sound(), true);
    Due.same("run(40)", core.run(40), 30);
    Due.same("register(0)", core.register(0), 30);
    Due.same("retract()", core.retract(), 29);
  }

  private static void operationOutside() {
    Due.about("op outside 0..10");
    for (int op : new int[] {LOW, -2, -1, 11, 12, 16, 256, HIGH}) {
      bad(op, 1, 1, 1);
    }
    taken(0, 1, 1, 1);
    taken(10, 1, 1, 1);
  }

  private static void registerOutside() {
    Due.about("x (r) outside 0..3");
    for (int op = PowerFailCore.SET; op <= PowerFailCore.IFPOS; op++) {
      for (int x : new int[] {LOW, -1, 4, 5, HIGH}) {
        bad(op, x, 1, 1);
      }
      for (int x = 0; x <= 3; x++) {
        taken(op, x, 1, 1);
      }
    }
  }

  private static void secondRegisterOutside() {
    Due.about("ADD, SUB, MUL: y outside 0..3");
    for (int op = PowerFailCore.ADD; op <= PowerFailCore.MUL; op++) {
      for (int y : new int[] {LOW, -1, 4, 5, HIGH}) {
        bad(op, 1, y, 1);
      }
      taken(op, 1, 0, 1);
      taken(op, 1, 3, 1);
    }
  }

  private static void thirdRegisterOutside() {
    Due.about("ADD, SUB, MUL: z outside 0..3");
    for (int op = PowerFailCore.ADD; op <= PowerFailCore.MUL; op++) {
      for (int z : new int[] {LOW, -1, 4, 5, HIGH}) {
        bad(op, 1, 1, z);
      }
      taken(op, 1, 1, 0);
      taken(op, 1, 1, 3);
    }
  }

  private static void cellOutside() {
    Due.about("LOAD, STORE: y (c) outside 0..11");
    for (int op = PowerFailCore.LOAD; op <= PowerFailCore.STORE; op++) {
      for (int y : new int[] {LOW, -1, 12, 13, HIGH}) {
        bad(op, 1, y, 1);
      }
      for (int y = 0; y <= 11; y++) {
        taken(op, 1, y, 1);
      }
    }
  }

  private static void indexRegisterOutside() {
    Due.about("LOADX, STOREX: y (s) outside 0..3");
    for (int op = PowerFailCore.LOADX; op <= PowerFailCore.STOREX; op++) {
      for (int y : new int[] {LOW, -1, 4, 7, 8, 11, HIGH}) {
        bad(op, 1, y, 1);
      }
      taken(op, 1, 0, 1);
      taken(op, 1, 3, 1);
    }
  }

  private static void leftOutOutside() {
    Due.about("IFPOS: y (n) outside 1..6");
    for (int y : new int[] {LOW, -1, 0, 7, 8, HIGH}) {
      bad(PowerFailCore.IFPOS, 1, y, 1);
    }
    for (int y = 1; y <= 6; y++) {
      taken(PowerFailCore.IFPOS, 1, y, 1);
    }
  }

  private static void passesOutside() {
    Due.about("LOOP: x (n) outside 1..6");
    for (int x : new int[] {LOW, -1, 0, 7, 8, HIGH}) {
      bad(PowerFailCore.LOOP, x, 1, 1);
    }
    for (int x = 1; x <= 6; x++) {
      taken(PowerFailCore.LOOP, x, 1, 1);
    }
  }

  private static void numberOfSetIsFree() {
    Due.about("in SET, n is y");
    for (int n : WILD) {
      taken(PowerFailCore.SET, 0, n, 0);
      PowerFailCore core = Due.program(PowerFailCore.SET, 2, n, 3);
      core.run(40);
      Due.registers("after SET 2 " + n, core, 0, 0, n, 0);
    }
  }

  private static void absentOperandsAreFree() {
    Due.about("operands that an instruction does not have play no part");
    for (int wild : WILD) {
      taken(PowerFailCore.SET, 0, 0, wild);
      for (int op = PowerFailCore.LOAD; op <= PowerFailCore.IFPOS; op++) {
        taken(op, 1, 1, wild);
      }
      taken(PowerFailCore.LOOP, 1, wild, 0);
      taken(PowerFailCore.LOOP, 1, 0, wild);
      taken(PowerFailCore.END, wild, 0, 0);
      taken(PowerFailCore.END, 0, wild, 0);
      taken(PowerFailCore.END, 0, 0, wild);
      bad(PowerFailCore.LOOP, 0, wild, wild);
      bad(PowerFailCore.IFPOS, 0, 0, wild);
    }
  }

  private static void absentOperandsPlayNoPartInARun() {
    Due.about("operands that an instruction does not have play no part");
    for (int w : WILD) {
      PowerFailCore core = Due.program(PowerFailCore.SET, 0, 3, w, PowerFailCore.LOAD, 1, 4, w,
          PowerFailCore.STORE, 1, 5, w, PowerFailCore.LOOP, 2, w, w, PowerFailCore.LOADX, 2, 0, w,
          PowerFailCore.ADD, 2, 2, 0, PowerFailCore.STOREX, 2, 0, w, PowerFailCore.END, w, w, w,
          PowerFailCore.IFPOS, 3, 1, w, PowerFailCore.SET, 0, 8, w);
      core.setCell(3, 30);
      core.setCell(4, 40);
      Due.same("sound() with " + w, core.sound(), true);
      Due.same("run(40) with " + w, core.run(40), 13);
      Due.registers("with " + w, core, 3, 40, 36, 0);
      Due.cells("with " + w, core, 0, 0, 0, 36, 40, 40, 0, 0, 0, 0, 0, 0);
    }
  }

  private static void badAddsNothing() {
    Due.about("a refused instruction leaves the program as it is");
    PowerFailCore core = Due.program(PowerFailCore.SET, 0, 5, 0);
    Due.same("emit of a bad SET", core.emit(PowerFailCore.SET, 4, 6, 0), -1);
    Due.same("emit of a bad LOOP", core.emit(PowerFailCore.LOOP, 7, 0, 0), -1);
    Due.same("emit of no operation", core.emit(11, 0, 0, 0), -1);
    Due.same("sound()", core.sound(), true);
    Due.same("run(40)", core.run(40), 1);
    Due.registers("after it", core, 5, 0, 0, 0);
    Due.same("emit of a good one", core.emit(PowerFailCore.SET, 3, 6, 0), 2);
    Due.same("run(40)", core.run(40), 2);
    Due.registers("after that", core, 5, 0, 0, 6);
  }
}
