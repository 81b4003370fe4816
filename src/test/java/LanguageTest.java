import java.io.IOException;
import java.lang.reflect.Constructor;
import java.lang.reflect.Field;
import java.lang.reflect.Method;
import java.lang.reflect.Modifier;
import java.nio.file.Files;
import java.nio.file.Path;
import java.util.Set;
import java.util.TreeSet;
import java.util.regex.Matcher;
import java.util.regex.Pattern;

/** Those rules of LANGUAGE.md that can be seen in the file or in the compiled class. */
public final class LanguageTest {
  private static final String[] FORBIDDEN = {
      "\\bthrow\\b", "\\bthrows\\b", "\\btry\\b", "\\bcatch\\b", "\\bsynchronized\\b", "\\bassert\\b", "->", "::", "\\bstatic\\s*\\{",
      "Exact\\b", "\\bpackage\\b", "\\bthread\\b", "\\bThread\\b", "\\bSystem\\.(?!arraycopy)", "\\bprotected\\b", "\\bhashCode\\b", "\\btoString\\b", "\\bRandom\\b",
      "new\\s+\\w+\\s*\\([^)]*\\)\\s*\\{", "\\bwhile\\s*\\(\\s*true", "for\\s*\\(\\s*;\\s*;"};

  private static final Set<String> FACE = Set.of(
      "int type(long,int)", "int clear()", "int park()", "int plank(int,int)", "int child(int,int)", "int stone(int,int)",
      "int sits(int,int,int)", "int leaves(int)", "int lay(int,int,int)", "int take(int)", "int ways(int,int,int)", "int most(int,int)",
      "int moves(int)", "int ballast(int,int)", "int game(int,int)", "int strangers(int)", "int trial(int,int,int)", "int could(int,int)",
      "int sure(int)", "int next(int)", "int rides(int,int)", "int forever()", "int rate(int,int)", "int keep(int)", "int back(int)",
      "int count(int)", "long trace()");

  public static void main(String[] args) throws IOException {
    String source = Files.readString(Path.of("src/main/java/SeesawPark.java"));
    String code = source.replaceAll("(?s)/\\*.*?\\*/", "").replaceAll("//[^\n]*", "").replaceAll("\"[^\"\n]*\"", "\"\"");
    for (String word : FORBIDDEN) Due.holds("no " + word, !Pattern.compile(word).matcher(code).find());
    Matcher imports = Pattern.compile("import ([^;]+);").matcher(code);
    while (imports.find()) Due.holds("import " + imports.group(1), Set.of("java.util.Arrays", "java.util.ArrayList", "java.util.List", "java.util.Iterator").contains(imports.group(1)));
    Due.holds("signs are 1 to 127", source.chars().allMatch(b -> b < 128));
    methodsAreShort(code);
    face();
    Due.end();
  }

  private static void methodsAreShort(String code) {
    int from = -1, at = 0;
    for (String line : code.split("\n")) {
      at++;
      if (line.matches(" {4}( {4})?[a-z].*\\) \\{")) from = at;
      if (line.matches(" {4}( {4})?\\}") && from >= 0) {
        Due.holds("the method that ends at line " + at + " is short", at - from <= 60);
        from = -1;
      }
    }
  }

  private static void face() {
    Class<?> x = SeesawPark.class;
    Due.holds("public and final", Modifier.isPublic(x.getModifiers()) && Modifier.isFinal(x.getModifiers()));
    Set<String> seen = new TreeSet<>(), names = new TreeSet<>();
    for (Method m : x.getDeclaredMethods()) {
      if (Modifier.isPrivate(m.getModifiers()) || m.isSynthetic()) continue;
      StringBuilder b = new StringBuilder(m.getReturnType() + " " + m.getName() + "(");
      for (Class<?> p : m.getParameterTypes()) b.append(b.charAt(b.length() - 1) == '(' ? "" : ",").append(p);
      seen.add(b.append(")").toString());
      names.add(m.getName());
      Due.holds(m.getName() + " is public", Modifier.isPublic(m.getModifiers()));
      Due.holds(m.getName() + " has no more than seven parameters", m.getParameterCount() <= 7);
    }
    Due.holds("the face " + seen, seen.equals(FACE));
    for (Method m : x.getDeclaredMethods())
      if (Modifier.isPrivate(m.getModifiers())) Due.holds("no private " + m.getName(), !names.contains(m.getName()));
    Set<String> constants = new TreeSet<>();
    for (Field f : x.getDeclaredFields()) {
      if (!Modifier.isPrivate(f.getModifiers())) constants.add(f.getName());
      if (Modifier.isStatic(f.getModifiers())) Due.holds(f.getName() + " is final", Modifier.isFinal(f.getModifiers()));
    }
    Due.holds("the constants " + constants, constants.equals(Set.of("BAD", "STATE", "FULL", "NONE", "NO")));
    for (Constructor<?> c : x.getDeclaredConstructors()) Due.holds("one constructor", c.getParameterCount() == 0 && Modifier.isPublic(c.getModifiers()));
    Class<?>[] inside = x.getDeclaredClasses();
    Due.holds("some twelve classes", inside.length + 1 <= 12);
    for (Class<?> c : inside) {
      Due.holds(c + " is static and not public", Modifier.isStatic(c.getModifiers()) && !Modifier.isPublic(c.getModifiers()));
      int fields = 0;
      for (Field f : c.getDeclaredFields()) {
        if (Modifier.isStatic(f.getModifiers())) Due.holds(f.getName() + " is final", Modifier.isFinal(f.getModifiers()));
        else fields++;
      }
      Due.holds(c + " has some twenty fields", fields <= 20);
      for (Method m : c.getDeclaredMethods()) Due.holds(c + " has no method named like the face's " + m.getName(), !names.contains(m.getName()));
    }
  }
}
