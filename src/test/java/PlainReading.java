/** The reading of the document without any failing of power: what a finished program leaves. */
final class PlainReading {
  final int[] registers = new int[4];
  final int[] cells;
  int executed = 0;
  private final int[][] program;

  PlainReading(int[][] program, int[] cells) {
    this.program = program;
    this.cells = cells.clone();
    read(0, program.length);
  }

  private void read(int from, int to) {
    int at = from;
    while (at < to) {
      int[] i = program[at];
      executed++;
      at++;
      switch (i[0]) {
        case PowerFailCore.SET -> registers[i[1]] = i[2];
        case PowerFailCore.ADD -> registers[i[1]] = registers[i[2]] + registers[i[3]];
        case PowerFailCore.SUB -> registers[i[1]] = registers[i[2]] - registers[i[3]];
        case PowerFailCore.MUL -> registers[i[1]] = registers[i[2]] * registers[i[3]];
        case PowerFailCore.LOAD -> registers[i[1]] = cells[i[2]];
        case PowerFailCore.STORE -> cells[i[2]] = registers[i[1]];
        case PowerFailCore.LOADX -> registers[i[1]] = cells[registers[i[2]] & 7];
        case PowerFailCore.STOREX -> cells[registers[i[2]] & 7] = registers[i[1]];
        case PowerFailCore.IFPOS -> at += registers[i[1]] > 0 ? 0 : i[2];
        case PowerFailCore.LOOP -> {
          int end = endOf(at - 1);
          for (int pass = 0; pass < i[1]; pass++) {
            read(at, end);
            executed++;
          }
          at = end + 1;
        }
        default -> throw new IllegalStateException("an END that no LOOP has led to");
      }
    }
  }

  private int endOf(int loop) {
    int open = 0;
    for (int at = loop; at < program.length; at++) {
      if (program[at][0] == PowerFailCore.LOOP) {
        open++;
      } else if (program[at][0] == PowerFailCore.END && --open == 0) {
        return at;
      }
    }
    throw new IllegalStateException("a LOOP without its END");
  }
}
