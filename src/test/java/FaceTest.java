import java.io.IOException;
import java.lang.reflect.Constructor;
import java.lang.reflect.Field;
import java.lang.reflect.Method;
import java.lang.reflect.Modifier;
import java.nio.file.Files;
import java.nio.file.Path;
import java.util.ArrayList;
import java.util.Arrays;
import java.util.HashSet;
import java.util.List;
import java.util.Set;
import java.util.TreeSet;
import java.util.regex.Matcher;
import java.util.regex.Pattern;

/** The public face of the document, and those rules of LANGUAGE.md that a look at the class and its text can tell. */
public final class FaceTest {
  private static final Path SOURCE = Path.of("src/main/java/MusicBox.java");
  private static final String FACE = "row 3, set 3, copy 5, drop 1, feed 1, box 0, fault 0, undo 0, ticks 1, wind 1, pin 2, drum 1, "
      + "mend 1, tooth 2, pins 1, stand 1, ahead 3, heard 2, when 2, stops 0, bestPin 2, begin 2, least 1, tune 3, sets 2, "
      + "share 2, byTurns 2, who 5, lost 4, drawn 3, image 1, restore 1, kind 1, as 2, ask 2, trace 1, count 1, status 0";
  private static final List<String> FORBIDDEN = List.of("throw", "throws", "try", "catch", "synchronized", "assert", "->", "::",
      "HashMap", "Exact", "Object", "protected", "System\\.out", "hashCode", "toString", "volatile", "native");
  private static final Checks CHECKS = new Checks();

  public static void main(String[] args) throws IOException {
    face();
    members();
    words();
    classes();
    CHECKS.end();
  }

  private static void face() {
    Set<String> told = new TreeSet<>(Arrays.asList(FACE.split(", ")));
    Set<String> there = new TreeSet<>();
    for (Method m : MusicBox.class.getDeclaredMethods()) {
      if (Modifier.isPublic(m.getModifiers())) {
        there.add(m.getName() + " " + m.getParameterCount());
        boolean wide = m.getName().equals("lost");
        CHECKS.holds(m.getName() + " answers a number", m.getReturnType() == (wide ? long.class : int.class));
        CHECKS.holds(m.getName() + " takes ints", Arrays.stream(m.getParameterTypes()).allMatch(t -> t == int.class));
        CHECKS.holds(m.getName() + " is of an object", !Modifier.isStatic(m.getModifiers()));
      }
    }
    CHECKS.holds("the methods are those of the document: " + there, there.equals(told));
    CHECKS.holds("39 of them with the constructor", told.size() == 38);
    CHECKS.holds("the class is public and final", Modifier.isPublic(MusicBox.class.getModifiers()) && Modifier.isFinal(MusicBox.class.getModifiers()));
    Constructor<?>[] made = MusicBox.class.getDeclaredConstructors();
    CHECKS.holds("one constructor", made.length == 1 && made[0].getParameterCount() == 0 && Modifier.isPublic(made[0].getModifiers()));
  }

  private static void members() {
    Set<String> constants = Set.of("NONE", "BAD", "STATE", "FULL");
    Set<String> names = new HashSet<>();
    for (String call : FACE.split(", ")) {
      names.add(call.split(" ")[0]);
    }
    for (Field f : MusicBox.class.getDeclaredFields()) {
      CHECKS.holds(f.getName() + " is private", Modifier.isPrivate(f.getModifiers()) != constants.contains(f.getName()));
    }
    for (Method m : MusicBox.class.getDeclaredMethods()) {
      CHECKS.holds(m.getName() + " is private or public", Modifier.isPrivate(m.getModifiers()) || Modifier.isPublic(m.getModifiers()));
      CHECKS.holds(m.getName() + " is no public one's name", names.contains(m.getName()) == Modifier.isPublic(m.getModifiers()));
    }
    for (Class<?> inside : MusicBox.class.getDeclaredClasses()) {
      CHECKS.holds(inside.getName() + " is static", Modifier.isStatic(inside.getModifiers()));
      for (Field f : inside.getDeclaredFields()) {
        CHECKS.holds(f.getName() + " is final, if static", !Modifier.isStatic(f.getModifiers()) || Modifier.isFinal(f.getModifiers()));
      }
      for (Method m : inside.getDeclaredMethods()) {
        CHECKS.holds(inside.getName() + "." + m.getName() + " is no public one's name", !names.contains(m.getName()));
        CHECKS.holds(m.getName() + " takes seven at most", m.getParameterCount() <= 7);
      }
    }
  }

  private static String code() throws IOException {
    return Files.readString(SOURCE).replaceAll("(?s)/\\*.*?\\*/", "").replaceAll("//[^\n]*", "");
  }

  private static void words() throws IOException {
    String code = code();
    for (String word : FORBIDDEN) {
      String pattern = Character.isLetter(word.charAt(0)) ? "\\b" + word + "\\b" : word;
      CHECKS.holds("no " + word, !Pattern.compile(pattern).matcher(code).find());
    }
    CHECKS.holds("no name that ends in Exact", !code.contains("Exact("));
    Matcher imports = Pattern.compile("import ([\\w.]+);").matcher(code);
    while (imports.find()) {
      CHECKS.holds(imports.group(1) + " is of the library told", Set.of("java.util.Arrays", "java.util.ArrayList", "java.util.List").contains(imports.group(1)));
    }
    CHECKS.holds("the text is plain", Files.readString(SOURCE).chars().allMatch(s -> s == '\n' || s >= ' ' && s < 127));
  }

  /** Bounds on how many classes, fields and lines there are. */
  private static void classes() throws IOException {
    List<Class<?>> all = new ArrayList<>(List.of(MusicBox.class.getDeclaredClasses()));
    all.add(MusicBox.class);
    CHECKS.holds("twelve classes at most", all.size() <= 12);
    for (Class<?> one : all) {
      long fields = Arrays.stream(one.getDeclaredFields()).filter(f -> !Modifier.isStatic(f.getModifiers())).count();
      CHECKS.holds(one.getName() + " has twenty fields at most", fields <= 20);
    }
    int begun = 0, line = 0;
    for (String text : Files.readString(SOURCE).split("\n")) {
      line++;
      if (text.matches(" {4,8}[a-zA-Z].*\\) \\{")) {
        begun = line;
      }
      CHECKS.holds("methods have sixty lines at most: line " + line, !text.matches(" {4,8}\\}") || line - begun <= 60 || begun == 0);
      if (text.matches(" {4}\\}") || text.matches(" {8}\\}")) {
        begun = 0;
      }
    }
  }
}
