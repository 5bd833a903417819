import java.io.IOException;
import java.lang.reflect.Constructor;
import java.lang.reflect.Field;
import java.lang.reflect.Method;
import java.lang.reflect.Modifier;
import java.nio.file.Files;
import java.nio.file.Path;
import java.util.Arrays;
import java.util.List;
import java.util.Set;
import java.util.TreeSet;
import java.util.regex.Matcher;
import java.util.regex.Pattern;

/** The face of the class, and those rules of LANGUAGE.md that can be read off the file. */
public final class LanguageTest {
  private static final Check CHECK = new Check();
  private static final String SOURCE = "src/main/java/AnvilStreet.java";
  private static final String[] FACE = {
    "int street(int)", "int anvil(int,int,int,int,int)", "int type(int)", "int clear()", "int read()",
    "int work(int,int,int)", "int day(int)", "int salt(int,int)", "int hand(int)", "int undo()", "int of(int,int)",
    "int up(int,int)", "int foreign(int,int)", "int then(int,int,int)", "int clean(int)", "int keep(int)",
    "int best(int)", "int orders(int,int,int)", "int waits(int,int,int,int)", "int note(int,int,int,int)",
    "int came(int,int,int,int)", "int forget(int)", "int is(int)", "int look(int)", "int memory(int,int)",
    "int whose(int,int,int,int)", "int two(int,int,int)", "int frost(int,int)", "int streets(int,int)",
    "long part(int)", "int image(int)", "int from(int)", "int status(int)", "int count(int)", "long digest()"};

  public static void main(String[] args) throws IOException {
    face();
    nested();
    String code = codeAlone(Files.readString(Path.of(SOURCE)));
    words(code);
    texts(Files.readString(Path.of(SOURCE)));
    lengths(code);
    CHECK.end();
  }

  private static void face() {
    Class<?> face = AnvilStreet.class;
    CHECK.holds("the class is public and final", Modifier.isPublic(face.getModifiers()) && Modifier.isFinal(face.getModifiers()));
    Constructor<?>[] makers = face.getDeclaredConstructors();
    CHECK.holds("one public constructor", makers.length == 1 && Modifier.isPublic(makers[0].getModifiers()) && makers[0].getParameterCount() == 0);
    Set<String> told = new TreeSet<>(Arrays.asList(FACE));
    Set<String> found = new TreeSet<>();
    for (Method m : face.getDeclaredMethods()) {
      if (Modifier.isPublic(m.getModifiers())) {
        StringBuilder b = new StringBuilder(m.getReturnType() + " " + m.getName() + "(");
        for (Class<?> p : m.getParameterTypes()) b.append(b.charAt(b.length() - 1) == '(' ? "" : ",").append(p);
        found.add(b.append(")").toString());
        CHECK.holds(m + " is of the object", !Modifier.isStatic(m.getModifiers()));
      } else {
        CHECK.holds(m + " is private", Modifier.isPrivate(m.getModifiers()));
      }
    }
    CHECK.holds("the methods are those told: " + found, found.equals(told));
    List<String> constants = List.of("NONE", "BAD", "NO", "FULL");
    for (Field f : face.getDeclaredFields()) {
      boolean isTold = constants.contains(f.getName());
      CHECK.holds(f + " is " + (isTold ? "public" : "private"), isTold ? Modifier.isPublic(f.getModifiers()) : Modifier.isPrivate(f.getModifiers()));
      statics(f);
    }
  }

  private static void statics(Field f) {
    if (Modifier.isStatic(f.getModifiers())) {
      CHECK.holds(f + " is final", Modifier.isFinal(f.getModifiers()));
      CHECK.holds(f + " is a number", f.getType().isPrimitive());
    }
  }

  private static void nested() {
    Set<String> publicNames = new TreeSet<>();
    for (String f : FACE) publicNames.add(f.substring(f.indexOf(' ') + 1, f.indexOf('(')));
    Class<?>[] inside = AnvilStreet.class.getDeclaredClasses();
    CHECK.holds("some twelve classes at most", inside.length + 1 <= 12);
    names(AnvilStreet.class, publicNames);
    for (Class<?> c : inside) {
      int m = c.getModifiers();
      CHECK.holds(c + " is static", Modifier.isStatic(m));
      CHECK.holds(c + " is not public or protected", !Modifier.isPublic(m) && !Modifier.isProtected(m));
      CHECK.holds(c + " has no class inside", c.getDeclaredClasses().length == 0);
      names(c, publicNames);
      for (Field f : c.getDeclaredFields()) statics(f);
    }
  }

  private static void names(Class<?> c, Set<String> publicNames) {
    int fields = 0;
    for (Field f : c.getDeclaredFields()) fields += Modifier.isStatic(f.getModifiers()) ? 0 : 1;
    CHECK.holds(c + " has some twenty fields at most", fields <= 20);
    for (Method m : c.getDeclaredMethods()) {
      boolean ofTheFace = c == AnvilStreet.class && Modifier.isPublic(m.getModifiers());
      CHECK.holds(m + " has a name of its own", ofTheFace || !publicNames.contains(m.getName()));
      CHECK.holds(m + " is not made by the compiler", !m.isSynthetic());
      CHECK.holds(m + " has seven parameters at most", m.getParameterCount() <= 7);
    }
  }

  /** The file without its comments, and with each text and sign in it made empty. */
  private static String codeAlone(String file) {
    return file.replaceAll("(?s)/\\*.*?\\*/", "").replaceAll("//[^\n]*", "").replaceAll("\"[^\"\n]*\"", "\"\"").replaceAll("'[^'\n]+'", "' '");
  }

  private static void words(String code) {
    String[] no = {"throw", "throws", "try", "catch", "finally", "synchronized", "assert", "import", "package", "equals", "hashCode",
      "toString", "native", "volatile", "transient", "strictfp", "protected", "goto", "interface", "Object", "Integer\\.value\\w*",
      "\\w+Exact", "float", "double", "record", "yield", "var", "static\\s*\\{"};
    for (String word : no) CHECK.holds("no '" + word + "'", !Pattern.compile("(?<!\\w)" + word + "(?!\\w)").matcher(code).find());
    CHECK.holds("no arrow", !code.contains("->"));
    CHECK.holds("no method reference", !code.contains("::"));
    Matcher library = Pattern.compile("(?<!\\w)(System|Math|Arrays|String|Integer|Long|List|ArrayList|StringBuilder|Thread|Character|Boolean)\\.(\\w+)").matcher(code);
    Set<String> allowed = Set.of("System.arraycopy", "Math.max", "Math.min");
    while (library.find()) CHECK.holds("of the library: " + library.group(), allowed.contains(library.group()));
    CHECK.holds("one class that is not inside", code.split("(?m)^[a-z][a-z ]*class ").length == 2);
  }

  private static void texts(String file) {
    for (int i = 0; i < file.length(); i++) {
      char c = file.charAt(i);
      if (c != '\n' && (c < 32 || c > 126)) CHECK.holds("sign " + (int) c + " at " + i, false);
    }
    CHECK.holds("no line is longer than 120 signs", file.lines().allMatch(l -> l.length() <= 120));
  }

  private static void lengths(String code) {
    String[] lines = code.split("\n");
    Pattern head = Pattern.compile("^( {2}| {4})(?! |if|for|while|switch|return|else)[\\w<>\\[\\], ]+\\([^;]*\\{$");
    int methods = 0;
    for (int i = 0; i < lines.length; i++) {
      Matcher m = head.matcher(lines[i]);
      if (m.matches()) {
        int end = i;
        while (end < lines.length && !lines[end].equals(m.group(1) + "}")) end++;
        methods++;
        CHECK.holds("sixty lines at most: " + lines[i].trim(), end - i <= 60);
      }
    }
    CHECK.holds("methods were found: " + methods, methods >= FACE.length + 1);
  }
}
