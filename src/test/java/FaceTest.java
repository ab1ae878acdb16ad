import java.lang.reflect.Constructor;
import java.lang.reflect.Executable;
import java.lang.reflect.Field;
import java.lang.reflect.Method;
import java.lang.reflect.Modifier;
import java.util.ArrayList;
import java.util.Arrays;
import java.util.Collections;
import java.util.HashSet;
import java.util.List;
import java.util.Set;

/** The class has the document's face, and nothing else that another class could see. */
public final class FaceTest {
  private static final String IAE = "IllegalArgumentException";
  private static final String NSE = "NoSuchElementException";
  private static final String ISE = "IllegalStateException";
  private static final String IOB = "IndexOutOfBoundsException";

  private static final List<String> FACE = List.of(
      line("int", "table", 1, IAE, NSE),
      line("int", "link", 4, IAE, NSE, ISE),
      line("int", "single", 2, IAE, NSE, ISE),
      line("int", "word", 1, IAE, NSE),
      line("int", "check", 1, IAE, NSE, ISE),
      line("void", "insert", 5, IAE, NSE, ISE),
      line("int", "delete", 3, IAE, ISE),
      line("int", "update", 4, IAE, NSE, ISE),
      line("int", "shift", 3, IAE, ISE),
      line("int", "keep", 0, NSE),
      line("int", "back", 0, NSE, ISE),
      line("boolean", "has", 2, IAE),
      line("int", "cell", 3, IAE, NSE),
      line("int", "key", 2, IAE, IOB),
      line("int", "count", 1, IAE),
      line("int", "referring", 2, IAE, NSE),
      line("int", "reason", 0));

  public static void main(String[] args) {
    List<String> faults = new ArrayList<>();
    int modifiers = KinLedger.class.getModifiers();
    if (!Modifier.isPublic(modifiers) || !Modifier.isFinal(modifiers)) {
      faults.add("the class is not public and final");
    }
    Constructor<?>[] made = KinLedger.class.getDeclaredConstructors();
    if (made.length != 1 || !Modifier.isPublic(made[0].getModifiers()) || made[0].getParameterCount() != 0) {
      faults.add("the constructor is not the document's");
    }
    compareMethods(faults);
    findOpenFields(KinLedger.class, faults);
    for (Class<?> inner : KinLedger.class.getDeclaredClasses()) {
      if (Modifier.isPublic(inner.getModifiers()) || Modifier.isProtected(inner.getModifiers())) {
        faults.add("class to be seen: " + inner.getName());
      }
      findOpenFields(inner, faults);
    }
    faults.forEach(System.out::println);
    System.out.println("FaceTest: " + faults.size() + " wrong");
    System.exit(faults.isEmpty() ? 0 : 1);
  }

  private static void compareMethods(List<String> faults) {
    List<String> found = new ArrayList<>();
    Set<String> names = new HashSet<>();
    for (Method method : KinLedger.class.getDeclaredMethods()) {
      if (Modifier.isPublic(method.getModifiers())) {
        found.add(line(method));
        names.add(method.getName());
      } else if (!Modifier.isPrivate(method.getModifiers())) {
        faults.add("method to be seen: " + method);
      }
    }
    List<String> due = new ArrayList<>(FACE);
    Collections.sort(due);
    Collections.sort(found);
    if (!due.equals(found)) {
      faults.add("due is " + due + ", there is " + found);
    }
    for (Method method : KinLedger.class.getDeclaredMethods()) {
      if (Modifier.isPrivate(method.getModifiers()) && names.contains(method.getName())) {
        faults.add("private method with a public one's name: " + method);
      }
    }
  }

  private static void findOpenFields(Class<?> owner, List<String> faults) {
    for (Field field : owner.getDeclaredFields()) {
      int modifiers = field.getModifiers();
      if (owner == KinLedger.class && !Modifier.isPrivate(modifiers)) {
        faults.add("field to be seen: " + field);
      }
      if (Modifier.isStatic(modifiers) && !Modifier.isFinal(modifiers)) {
        faults.add("static field that is not final: " + field);
      }
    }
  }

  private static String line(Method method) {
    for (Class<?> parameter : method.getParameterTypes()) {
      if (parameter != int.class) {
        return method.toString();
      }
    }
    return line(method.getReturnType().getName(), method.getName(), method.getParameterCount(), thrown(method));
  }

  private static String[] thrown(Executable method) {
    return Arrays.stream(method.getExceptionTypes()).map(Class::getSimpleName).toArray(String[]::new);
  }

  private static String line(String answer, String name, int parameters, String... thrown) {
    return answer + " " + name + "/" + parameters + " " + String.join(",", thrown);
  }
}
