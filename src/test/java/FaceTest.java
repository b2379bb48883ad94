import java.lang.reflect.Constructor;
import java.lang.reflect.Field;
import java.lang.reflect.Method;
import java.lang.reflect.Modifier;
import java.util.HashSet;
import java.util.Set;
import java.util.TreeSet;

/** The public face of the document: every member of it, and no other that is not private. */
public final class FaceTest {
  private static final String[] CONSTANTS = {
    "OP_LOOP=1", "OP_IF=2", "OP_END=3", "OP_SET=4", "OP_LOAD=5", "OP_ADD=6", "OP_STORE=7",
    "ST_NOT_ACCESS=0", "ST_OK=1", "ST_LOW_FAIL=2", "ST_HIGH_FAIL=3", "ST_BOTH_FAIL=4",
    "ACCEPTED=-1", "INCOMPLETE=-2",
    "RUN_DONE=0", "RUN_TRAP=1", "RUN_OUT_OF_FUEL=2", "RUN_REFUSED=3",
    "MAX_CONST=1000", "MAX_FUEL=10000", "CELLS=16",
  };
  private static final String[] METHODS = {
    "boolean addPre 3", "void clearPre 0", "boolean declare 3", "boolean emit 4",
    "void clearProgram 0", "boolean setParam 2", "boolean setCell 3", "boolean consistent 0",
    "boolean implies 3", "int accessStatus 1", "int check 0", "int run 1", "int cell 2",
    "int acc 0", "int trapAt 0", "int size 0",
  };

  public static void main(String[] args) throws Exception {
    Class<?> face = IndexTypeChecker.class;
    Due.yes("the class is public and final",
        Modifier.isPublic(face.getModifiers()) && Modifier.isFinal(face.getModifiers()));
    Due.is("nested classes", face.getDeclaredClasses().length, 0);
    same("constants", constants(face), CONSTANTS);
    same("methods", methods(face), METHODS);
    Constructor<?>[] constructors = face.getDeclaredConstructors();
    Due.is("constructors", constructors.length, 1);
    Due.yes("constructor is public", Modifier.isPublic(constructors[0].getModifiers()));
    Due.yes("constructor takes two ints", allInts(constructors[0].getParameterTypes(), 2));
    privateNamesDiffer(face);
    Due.finish();
  }

  private static Set<String> constants(Class<?> face) throws Exception {
    Set<String> found = new TreeSet<>();
    for (Field field : face.getDeclaredFields()) {
      int m = field.getModifiers();
      if (Modifier.isPrivate(m)) {
        continue;
      }
      Due.yes(field + " is a public static final int", Modifier.isPublic(m) && Modifier.isStatic(m)
          && Modifier.isFinal(m) && field.getType() == int.class);
      found.add(field.getName() + "=" + field.get(null));
    }
    return found;
  }

  private static Set<String> methods(Class<?> face) {
    Set<String> found = new TreeSet<>();
    for (Method method : face.getDeclaredMethods()) {
      int m = method.getModifiers();
      if (Modifier.isPrivate(m)) {
        continue;
      }
      int count = method.getParameterCount();
      Due.yes(method + " is public, not static, over ints", Modifier.isPublic(m)
          && !Modifier.isStatic(m) && allInts(method.getParameterTypes(), count));
      found.add(method.getReturnType() + " " + method.getName() + " " + count);
    }
    return found;
  }

  private static void privateNamesDiffer(Class<?> face) {
    Set<String> open = new HashSet<>();
    for (Method method : face.getMethods()) {
      open.add(method.getName());
    }
    for (Method method : face.getDeclaredMethods()) {
      if (Modifier.isPrivate(method.getModifiers())) {
        Due.no("private " + method.getName() + " bears a public name", open.contains(method.getName()));
      }
    }
  }

  private static boolean allInts(Class<?>[] types, int count) {
    for (Class<?> type : types) {
      if (type != int.class) {
        return false;
      }
    }
    return types.length == count;
  }

  private static void same(String what, Set<String> found, String[] due) {
    Set<String> wanted = new TreeSet<>(Set.of(due));
    Due.yes(what + " are " + found + ", due are " + wanted, found.equals(wanted));
  }
}
