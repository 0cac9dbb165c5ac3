/** Promise 8. */
public final class RegisterTest {
  private static final int[] OUTSIDE = {Integer.MIN_VALUE, -4, -1, 4, 5, 6, 7, 8, 9, 10, 11, 12, Integer.MAX_VALUE};

  public static void main(String[] args) {
    beforeAnyRun();
    everyRegister();
    eachRunStartsFromZero();
    onlyARunChangesThem();
    Due.end();
  }

  private static void beforeAnyRun() {
    PowerFailCore core = Due.program(0, 0, 5, 0, 9, 1, 0, 0);
    Due.same("register(0) before any run", core.register(0), 0);
    core.run(40);
    Due.same("register(0) after a refused run alone", core.register(0), 0);
  }

  private static void everyRegister() {
    PowerFailCore core = Due.program(0, 0, Integer.MIN_VALUE, 0, 0, 1, -1, 0, 0, 2, 17, 0, 0, 3, Integer.MAX_VALUE, 0,
        9, 5, 0, 0, 9, 4, 0, 0, 10, 0, 0, 0, 10, 0, 0, 0);
    core.run(40);
    Due.same("register(0)", core.register(0), Integer.MIN_VALUE);
    Due.same("register(1)", core.register(1), -1);
    Due.same("register(2)", core.register(2), 17);
    Due.same("register(3)", core.register(3), Integer.MAX_VALUE);
    for (int r : OUTSIDE) {
      Due.same("register(" + r + ")", core.register(r), 0);
    }
  }

  private static void eachRunStartsFromZero() {
    PowerFailCore core = Due.program(0, 1, 1, 0, 1, 0, 0, 1);
    core.run(40);
    Due.same("register(0) after one run", core.register(0), 1);
    core.run(40);
    Due.same("register(0) after two", core.register(0), 1);
    core.retract();
    core.run(40);
    Due.same("register(0) after a run that leaves it", core.register(0), 0);
    Due.same("register(1)", core.register(1), 1);
    core.retract();
    Due.same("run(40) of the empty program", core.run(40), 0);
    Due.same("register(1) after it", core.register(1), 0);
  }

  private static void onlyARunChangesThem() {
    PowerFailCore core = Due.program(0, 0, 5, 0);
    core.run(40);
    core.emit(0, 0, 6, 0);
    Due.same("register(0) after emit", core.register(0), 5);
    core.setCell(0, 9);
    Due.same("register(0) after setCell", core.register(0), 5);
    core.sound();
    core.emit(10, 0, 0, 0);
    core.run(40);
    Due.same("register(0) after a refused run", core.register(0), 5);
    core.retract();
    core.run(40);
    Due.same("register(0) after a run", core.register(0), 6);
  }
}
