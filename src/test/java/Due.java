/** Compares answers with those that are due, and ends a test with exit code 1 if one differs. */
final class Due {
  static final int LOW = Integer.MIN_VALUE;
  static final int HIGH = Integer.MAX_VALUE;

  private static int wrong = 0;
  private static int seen = 0;
  private static String about = "";

  private Due() {
  }

  /** Names the sentence of the document that the next answers are about. */
  static void about(String sentence) {
    about = sentence + ": ";
  }

  static void same(String call, long got, long want) {
    seen++;
    if (got != want) {
      wrong++;
      System.out.println(about + call + " answered " + got + ", due is " + want);
    }
  }

  static void same(String call, boolean got, boolean want) {
    same(call, got ? 1L : 0L, want ? 1L : 0L);
  }

  /** Puts instructions of four numbers each into the program; each must be taken. */
  static void feed(PowerFailCore core, int... numbers) {
    for (int i = 0; i < numbers.length; i += 4) {
      int answer = core.emit(numbers[i], numbers[i + 1], numbers[i + 2], numbers[i + 3]);
      if (answer < 1) {
        same("emit of a good instruction, number " + i / 4, answer, i / 4 + 1);
      }
    }
  }

  static PowerFailCore program(int... numbers) {
    PowerFailCore core = new PowerFailCore();
    feed(core, numbers);
    return core;
  }

  /** A program in letters: ( LOOP of two passes, ) END, s SET, 1 to 6 an IFPOS over as many. */
  static PowerFailCore programOf(String letters) {
    PowerFailCore core = new PowerFailCore();
    for (char letter : letters.toCharArray()) {
      switch (letter) {
        case '(' -> feed(core, PowerFailCore.LOOP, 2, 0, 0);
        case ')' -> feed(core, PowerFailCore.END, 0, 0, 0);
        case 's' -> feed(core, PowerFailCore.SET, 0, 0, 0);
        default -> feed(core, PowerFailCore.IFPOS, 0, letter - '0', 0);
      }
    }
    return core;
  }

  static void cells(String when, PowerFailCore core, int... want) {
    for (int c = 0; c < want.length; c++) {
      same(when + ", cell(" + c + ")", core.cell(c), want[c]);
    }
  }

  static void registers(String when, PowerFailCore core, int... want) {
    for (int r = 0; r < want.length; r++) {
      same(when + ", register(" + r + ")", core.register(r), want[r]);
    }
  }

  static void end() {
    System.out.println(seen + " answers, " + wrong + " not as due");
    if (wrong != 0 || seen == 0) {
      System.exit(1);
    }
  }
}
