import java.lang.reflect.Constructor;
import java.lang.reflect.Field;
import java.lang.reflect.Method;
import java.lang.reflect.Modifier;
import java.nio.file.Files;
import java.nio.file.Path;
import java.util.Set;
import java.util.TreeSet;
import java.util.regex.Pattern;

/** The public face, and of LANGUAGE.md what can be told by reflection or by looking at words. */
public final class FaceTest {
  private static final Check CHECK = new Check();
  private static final Set<String> FACE = Set.of(
      "int write(int)", "int wipe()", "int fault()", "int lay()", "int person(int,int)",
      "int thing(int,int)", "int likes(int,int)", "int draw(int)", "int refuse()", "int buy(int,int)",
      "int hand(int,int)", "int swap(int,int)", "int give(int,int)", "int undo()",
      "int wins(int,int,int)", "long mean(int,int)", "int needs(int,int,int)", "int swaps()",
      "int gives()", "int share(int)", "int envy()", "int ring()", "int note(int)", "int forget()",
      "long fair(int,int,int)", "long seats(int)", "int year(int,int,int)", "int keep()", "int back()",
      "int count(int)");

  public static void main(String[] args) throws Exception {
    constants();
    members();
    insides();
    words(Files.readString(Path.of(args.length > 0 ? args[0] : "src/main/java/ParishRaffle.java")));
    CHECK.end();
  }

  private static void yes(String what, boolean is) {
    CHECK.due(what, is ? 1 : 0, 1);
  }

  private static void constants() throws Exception {
    String[] names = {"BAD", "NO", "FULL", "NONE"};
    for (int i = 0; i < names.length; i++) {
      Field f = ParishRaffle.class.getDeclaredField(names[i]);
      yes(names[i] + " is public static final int", f.getType() == int.class
          && f.getModifiers() == (Modifier.PUBLIC | Modifier.STATIC | Modifier.FINAL));
      CHECK.due(names[i], f.getInt(null), -1 - i);
    }
  }

  private static void members() {
    Class<?> c = ParishRaffle.class;
    CHECK.due("modifiers of the class", c.getModifiers(), Modifier.PUBLIC | Modifier.FINAL);
    Set<String> seen = new TreeSet<>();
    for (Method m : c.getDeclaredMethods()) {
      if (!Modifier.isPrivate(m.getModifiers()) && !m.isSynthetic()) {
        yes(m + " is plainly public", m.getModifiers() == Modifier.PUBLIC);
        StringBuilder s = new StringBuilder(m.getReturnType() + " " + m.getName() + "(");
        for (Class<?> p : m.getParameterTypes()) {
          s.append(s.charAt(s.length() - 1) == '(' ? "" : ",").append(p);
        }
        seen.add(s.append(")").toString());
        yes(m + " names no exception", m.getExceptionTypes().length == 0);
      }
    }
    yes("the methods are those of the document: " + seen, seen.equals(FACE));
    int open = 0;
    for (Field f : c.getDeclaredFields()) {
      open += Modifier.isPrivate(f.getModifiers()) ? 0 : 1;
    }
    CHECK.due("visible fields", open, 4);
    Constructor<?>[] makers = c.getDeclaredConstructors();
    CHECK.due("constructors", makers.length, 1);
    CHECK.due("its parameters", makers[0].getParameterCount(), 0);
    CHECK.due("its modifiers", makers[0].getModifiers(), Modifier.PUBLIC);
    for (Class<?> in : c.getDeclaredClasses()) {
      yes(in + " is private and static", Modifier.isPrivate(in.getModifiers())
          && Modifier.isStatic(in.getModifiers()));
    }
  }

  /** Rules 1, 5 and 11: names of private methods, static fields, how many of everything. */
  private static void insides() {
    Set<String> names = new TreeSet<>();
    for (String call : FACE) {
      names.add(call.substring(call.indexOf(' ') + 1, call.indexOf('(')));
    }
    Class<?>[] inside = ParishRaffle.class.getDeclaredClasses();
    yes("twelve classes at most", inside.length < 12);
    inspect(ParishRaffle.class, names);
    for (Class<?> in : inside) {
      inspect(in, names);
    }
  }

  private static void inspect(Class<?> c, Set<String> face) {
    for (Method m : c.getDeclaredMethods()) {
      yes(m + " takes seven at most", m.getParameterCount() <= 7);
      if (Modifier.isPrivate(m.getModifiers()) || c != ParishRaffle.class) {
        yes(m + " has a name of its own", !face.contains(m.getName()));
      }
    }
    int fields = 0;
    for (Field f : c.getDeclaredFields()) {
      if (Modifier.isStatic(f.getModifiers())) {
        yes(f + " is a constant", Modifier.isFinal(f.getModifiers())
            && (f.getType().isPrimitive() || f.getType() == String.class));
      } else {
        fields++;
      }
    }
    yes(c + " has twenty fields at most", fields <= 20);
  }

  private static void words(String source) {
    String code = source.replaceAll("(?s)/\\*.*?\\*/", "").replaceAll("//[^\n]*", "");
    String[] ruledOut = {"->", "::", "\\w+Exact\\b", "\\b(try|catch|throw|finally)\\b",
      "\\b(synchronized|assert|package|protected)\\b", "\\bRandom\\b", "\\bSystem\\.(?!arraycopy)",
      "\\bThread\\b", "\\bstatic\\s*\\{", "\\bMath\\.(?!max\\b|min\\b)", "[^\\x00-\\x7f]"};
    for (String pattern : ruledOut) {
      yes("nothing like " + pattern, !Pattern.compile(pattern).matcher(code).find());
    }
    for (String line : code.split("\n")) {
      if (line.startsWith("import")) {
        yes(line, line.equals("import java.util.Arrays;"));
      }
    }
  }
}
