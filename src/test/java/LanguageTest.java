import java.io.IOException;
import java.lang.reflect.Field;
import java.lang.reflect.Method;
import java.lang.reflect.Modifier;
import java.nio.file.Files;
import java.nio.file.Path;
import java.util.ArrayList;
import java.util.HashSet;
import java.util.List;
import java.util.Set;
import java.util.TreeSet;
import java.util.regex.Matcher;
import java.util.regex.Pattern;
import java.util.stream.Stream;

/** Those rules of LANGUAGE.md that can be seen in the program's text or in its classes. */
public final class LanguageTest {
  private static final Path PROGRAM = Path.of("src/main/java/RoutingDomain.java");
  private static final Path DOCUMENT = Path.of("../shared/DOC.md");
  private static final List<String> IMPORTS =
      List.of("import java.util.Arrays;", "import java.util.NoSuchElementException;");
  private static final List<String> FORBIDDEN =
      List.of(
          "->", "::", "\\binstanceof\\b", "\\btry\\b", "\\bcatch\\b", "\\bfinally\\b",
          "\\bsynchronized\\b", "\\bassert\\b", "\\bpackage\\b", "\\bstatic \\{", "\\bgetClass\\b",
          "\\bSystem\\.(?!arraycopy)", "\\bThread\\b", "\\bMath\\.\\w*Exact\\b", "\\bwhile\\b",
          "\\bObjects\\b", "\\bString\\.", "\\bvar\\b", "\\byield\\b");

  private static int wrong = 0;

  private LanguageTest() {}

  public static void main(String[] args) throws IOException {
    String text = Files.readString(PROGRAM);
    faceIsTheDocuments(Files.readString(DOCUMENT));
    nothingElseIsVisible();
    for (Class<?> type : types()) {
      fieldsAreAllowed(type);
      methodsAreAllowed(type);
    }
    textIsAllowed(text);
    methodsAreShort(text);
    System.out.println(wrong + " breaches of the language");
    if (wrong != 0) {
      System.exit(1);
    }
  }

  private static void demand(boolean holds, String breach) {
    if (!holds) {
      wrong++;
      System.out.println(breach);
    }
  }

  private static List<Class<?>> types() {
    List<Class<?>> types = new ArrayList<>(List.of(RoutingDomain.class.getDeclaredClasses()));
    types.add(RoutingDomain.class);
    return types;
  }

  private static void faceIsTheDocuments(String document) {
    Matcher block =
        Pattern.compile("public final class RoutingDomain \\{(.*?)\\n\\}", Pattern.DOTALL)
            .matcher(document);
    demand(block.find(), "the document has no face");
    Set<String> due = new TreeSet<>();
    for (String line : block.group(1).split(";")) {
      if (line.contains("(") && !line.contains("RoutingDomain()")) {
        String bare = line.strip().replaceAll(" \\w+(?=[,)])(?=.*\\))", "");
        due.add(bare.replaceAll("java\\.util\\.", ""));
      }
    }
    Set<String> present = new TreeSet<>();
    for (Method method : RoutingDomain.class.getDeclaredMethods()) {
      if (!Modifier.isPrivate(method.getModifiers())) {
        present.add(signature(method));
      }
    }
    demand(due.equals(present), "the face is " + present + " and should be " + due);
  }

  private static String signature(Method method) {
    List<String> parameters =
        Stream.of(method.getParameterTypes()).map(Class::getSimpleName).toList();
    List<String> exceptions =
        Stream.of(method.getExceptionTypes()).map(Class::getSimpleName).toList();
    return Modifier.toString(method.getModifiers())
        + (" " + method.getReturnType().getSimpleName() + " " + method.getName())
        + ("(" + String.join(", ", parameters) + ")")
        + (exceptions.isEmpty() ? "" : " throws " + String.join(", ", exceptions));
  }

  private static void nothingElseIsVisible() {
    int modifiers = RoutingDomain.class.getModifiers();
    demand(Modifier.isPublic(modifiers) && Modifier.isFinal(modifiers), "not public and final");
    demand(RoutingDomain.class.getConstructors().length == 1, "not one public constructor");
    demand(RoutingDomain.class.getDeclaredConstructors().length == 1, "more constructors");
    for (Field field : RoutingDomain.class.getDeclaredFields()) {
      demand(Modifier.isPrivate(field.getModifiers()), "a visible field: " + field);
    }
    demand(types().size() <= 12, "more than twelve classes");
    for (Class<?> type : RoutingDomain.class.getDeclaredClasses()) {
      demand(Modifier.isStatic(type.getModifiers()), type + " is not static");
      demand(!Modifier.isPublic(type.getModifiers()), type + " is public");
    }
  }

  private static void fieldsAreAllowed(Class<?> type) {
    int fields = 0;
    for (Field field : type.getDeclaredFields()) {
      boolean isStatic = Modifier.isStatic(field.getModifiers());
      fields += isStatic ? 0 : 1;
      demand(
          !isStatic || (Modifier.isFinal(field.getModifiers()) && field.getType() == int.class),
          "a static field that is no constant: " + field);
    }
    demand(fields <= 20, type + " has " + fields + " fields");
  }

  private static void methodsAreAllowed(Class<?> type) {
    Set<String> face = new HashSet<>();
    for (Method method : RoutingDomain.class.getMethods()) {
      if (method.getDeclaringClass() == RoutingDomain.class) {
        face.add(method.getName());
      }
    }
    for (Method method : type.getDeclaredMethods()) {
      boolean isOfFace = type == RoutingDomain.class && Modifier.isPublic(method.getModifiers());
      demand(isOfFace || !face.contains(method.getName()), "bears a public name: " + method);
      demand(!method.isSynthetic(), "made by the compiler: " + method);
      demand(method.getParameterCount() <= 7, "more than seven parameters: " + method);
    }
  }

  private static void textIsAllowed(String text) {
    String code =
        text.replaceAll("(?s)/\\*.*?\\*/", "")
            .replaceAll("//[^\n]*", "")
            .replaceAll("\"[^\"\n]*\"", "\"\"");
    for (String pattern : FORBIDDEN) {
      Matcher matcher = Pattern.compile(pattern).matcher(code);
      demand(!matcher.find(), "the text has " + pattern);
    }
    for (String line : code.split("\n")) {
      demand(!line.startsWith("import ") || IMPORTS.contains(line), "not allowed: " + line);
    }
    demand(text.chars().allMatch(c -> c < 128), "the text has signs above 127");
  }

  private static void methodsAreShort(String text) {
    String[] lines = text.split("\n");
    for (int i = 0; i < lines.length; i++) {
      if (lines[i].matches(" {2,4}[\\w<].*\\{") && !lines[i].contains(" class ")) {
        String end = lines[i].replaceAll("\\S.*", "") + "}";
        int last = i;
        while (last < lines.length && !lines[last].equals(end)) {
          last++;
        }
        demand(last - i < 60, "longer than sixty lines: " + lines[i].strip());
      }
    }
  }
}
