import java.lang.reflect.Constructor;
import java.lang.reflect.Field;
import java.lang.reflect.Method;
import java.lang.reflect.Modifier;
import java.util.Set;
import java.util.TreeSet;

/** Promise 1, and the public face. */
public final class NewObjectTest {
  public static void main(String[] args) throws ReflectiveOperationException {
    newObjectIsEmpty();
    objectsAreApart();
    constants();
    nothingElseIsSeen();
    Due.end();
  }

  private static void newObjectIsEmpty() {
    PowerFailCore core = new PowerFailCore();
    for (int c = 0; c < 12; c++) {
      Due.same("new: cell(" + c + ")", core.cell(c), 0);
    }
    for (int r = 0; r < 4; r++) {
      Due.same("new: register(" + r + ")", core.register(r), 0);
    }
    Due.same("new: sound()", core.sound(), true);
    Due.same("new: retract()", core.retract(), -1);
    Due.same("new: run(50)", core.run(50), 0);
    Due.same("new: emit of the first", core.emit(0, 0, 0, 0), 1);
  }

  private static void objectsAreApart() {
    PowerFailCore one = Due.program(0, 0, 5, 0, 5, 0, 2, 0);
    one.run(40);
    PowerFailCore other = new PowerFailCore();
    Due.same("other object: cell(2)", other.cell(2), 0);
    Due.same("other object: register(0)", other.register(0), 0);
    Due.same("other object: retract()", other.retract(), -1);
    Due.same("first object: cell(2)", one.cell(2), 5);
  }

  private static void constants() throws ReflectiveOperationException {
    String[] names = {"SET", "ADD", "SUB", "MUL", "LOAD", "STORE", "LOADX", "STOREX", "IFPOS", "LOOP", "END"};
    for (int op = 0; op < names.length; op++) {
      Due.same(names[op], PowerFailCore.class.getField(names[op]).getInt(null), op);
    }
    Due.same("BAD", PowerFailCore.BAD, -1);
    Due.same("FULL", PowerFailCore.FULL, -2);
    Due.same("UNSOUND", PowerFailCore.UNSOUND, -3);
  }

  private static void nothingElseIsSeen() {
    int constants = 0;
    for (Field field : PowerFailCore.class.getDeclaredFields()) {
      int how = field.getModifiers();
      if (!Modifier.isPrivate(how)) {
        constants++;
        Due.same(field.getName() + " is a public constant", Modifier.isPublic(how) && Modifier.isStatic(how)
            && Modifier.isFinal(how) && field.getType() == int.class, true);
      }
    }
    Due.same("number of constants", constants, 14);
    Set<String> seen = new TreeSet<>();
    for (Method method : PowerFailCore.class.getDeclaredMethods()) {
      if (!Modifier.isPrivate(method.getModifiers())) {
        seen.add(method.toString().replace("PowerFailCore.", ""));
      }
    }
    Set<String> due = new TreeSet<>(Set.of("public int emit(int,int,int,int)", "public int retract()",
        "public boolean sound()", "public boolean setCell(int,int)", "public int run(int)", "public int cell(int)",
        "public int register(int)", "public void clear()"));
    Due.same("methods " + seen + " are those of the face", seen.equals(due), true);
    Constructor<?>[] made = PowerFailCore.class.getDeclaredConstructors();
    Due.same("one public constructor without parameters", made.length == 1 && made[0].getParameterCount() == 0
        && Modifier.isPublic(made[0].getModifiers()), true);
    int how = PowerFailCore.class.getModifiers();
    Due.same("the class is public and final", Modifier.isPublic(how) && Modifier.isFinal(how), true);
  }
}
