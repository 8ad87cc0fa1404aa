import java.io.IOException;
import java.lang.reflect.Array;
import java.lang.reflect.Constructor;
import java.lang.reflect.Field;
import java.lang.reflect.Member;
import java.lang.reflect.Method;
import java.lang.reflect.Modifier;
import java.nio.file.Files;
import java.nio.file.Path;
import java.util.ArrayList;
import java.util.List;
import java.util.Set;
import java.util.TreeSet;
import java.util.regex.Matcher;
import java.util.regex.Pattern;

/** The class has just the document's face, and its file keeps to what LANGUAGE.md leaves. */
public final class FaceTest {
  private static int wrong = 0;

  /** Elements of all objects of one run that the room has, if each of 512 calls made a new object. */
  private static final int MOST_ELEMENTS = 7_300_000 / 512;

  /** The face as the document writes it out, without the names of the parameters. */
  private static Set<String> documentFace() throws IOException {
    String text = Files.readString(Path.of("..", "shared", "DOC.md"));
    Matcher body = Pattern.compile("(?s)public final class SlabHeap \\{\n(.*?)\n\\}").matcher(text);
    Set<String> face = new TreeSet<>();
    if (!body.find()) {
      return face;
    }
    for (String line : body.group(1).split("\n")) {
      face.add(line.trim().replaceAll("(int|boolean) \\w+(?=[,)])", "$1")
          .replace(", ", ",").replaceAll("( = -1)?;$", ""));
    }
    return face;
  }

  private static void check(boolean holds, String what) {
    if (!holds) {
      wrong++;
      System.out.println("not so: " + what);
    }
  }

  private static String parameters(Class<?>[] types) {
    List<String> names = new ArrayList<>();
    for (Class<?> type : types) {
      names.add(type.getSimpleName());
    }
    return "(" + String.join(",", names) + ")";
  }

  private static void addUnlessPrivate(Set<String> members, Member member, String text) {
    if (!Modifier.isPrivate(member.getModifiers()) && !member.isSynthetic()) {
      members.add((Modifier.toString(member.getModifiers()) + " " + text).trim());
    }
  }

  private static void checkFace(Set<String> face) {
    Set<String> members = new TreeSet<>();
    for (Field f : SlabHeap.class.getDeclaredFields()) {
      addUnlessPrivate(members, f, f.getType().getSimpleName() + " " + f.getName());
    }
    for (Constructor<?> c : SlabHeap.class.getDeclaredConstructors()) {
      addUnlessPrivate(members, c, "SlabHeap" + parameters(c.getParameterTypes()));
    }
    for (Method m : SlabHeap.class.getDeclaredMethods()) {
      addUnlessPrivate(members, m,
          m.getReturnType().getSimpleName() + " " + m.getName() + parameters(m.getParameterTypes()));
    }
    check(face.size() == 23, "the document writes a constant, a constructor and 21 methods: " + face);
    check(members.equals(face), "the face is the document's, but is " + members);
    int modifiers = SlabHeap.class.getModifiers();
    check(Modifier.isPublic(modifiers) && Modifier.isFinal(modifiers), "the class is public and final");
  }

  private static void checkNames(Set<String> face) {
    Set<String> open = new TreeSet<>();
    for (String member : face) {
      Matcher m = Pattern.compile("(\\w+)\\(").matcher(member);
      if (m.find()) {
        open.add(m.group(1));
      }
    }
    List<Class<?>> classes = new ArrayList<>(List.of(SlabHeap.class.getDeclaredClasses()));
    check(classes.size() <= 11, "at most twelve classes");
    for (Class<?> inside : classes) {
      check(Modifier.isStatic(inside.getModifiers()), inside + " is static");
    }
    classes.add(SlabHeap.class);
    for (Class<?> c : classes) {
      for (Method m : c.getDeclaredMethods()) {
        boolean isPublic = Modifier.isPublic(m.getModifiers());
        check(isPublic || !open.contains(m.getName()), m + " has a name of its own");
        check(m.getParameterCount() <= 7, m + " has at most seven parameters");
      }
      int fields = 0;
      for (Field f : c.getDeclaredFields()) {
        boolean fixed = Modifier.isStatic(f.getModifiers());
        check(!fixed || Modifier.isFinal(f.getModifiers()), f + " is final");
        fields += fixed ? 0 : 1;
      }
      check(fields <= 20, c + " has at most twenty fields");
    }
  }

  private static void checkWords() throws Exception {
    String text = Files.readString(Path.of("src/main/java/SlabHeap.java"));
    String code = text.replaceAll("(?s)/\\*.*?\\*/", " ").replaceAll("//[^\n]*", " ");
    for (String word : List.of("throw", "throws", "try", "catch", "finally", "synchronized", "assert",
        "package", "System", "Random", "Thread", "Object", "hashCode", "toString")) {
      check(!Pattern.compile("\\b" + word + "\\b").matcher(code).find(), "no " + word);
    }
    check(!code.contains("->") && !code.contains("::"), "no lambda and no method reference");
    check(!Pattern.compile("\\w+Exact\\b").matcher(code).find(), "nothing whose name ends in Exact");
    Matcher imports = Pattern.compile("import ([\\w.*]+);").matcher(code);
    while (imports.find()) {
      check(Set.of("java.util.Arrays", "java.util.ArrayList", "java.util.List").contains(imports.group(1)),
          "import of " + imports.group(1));
    }
  }

  /** Rows and fields of an object and of the objects that it holds. */
  private static int elementsOf(Object object) throws IllegalAccessException {
    if (object.getClass().isArray()) {
      return Array.getLength(object);
    }
    int n = 0;
    for (Field f : object.getClass().getDeclaredFields()) {
      if (!Modifier.isStatic(f.getModifiers())) {
        f.setAccessible(true);
        n += 1 + (f.getType().isPrimitive() ? 0 : elementsOf(f.get(object)));
      }
    }
    return n;
  }

  private static Set<String> finalFields() {
    Set<String> names = new TreeSet<>();
    List<Class<?>> classes = new ArrayList<>(List.of(SlabHeap.class.getDeclaredClasses()));
    classes.add(SlabHeap.class);
    for (Class<?> c : classes) {
      for (Field f : c.getDeclaredFields()) {
        if (Modifier.isFinal(f.getModifiers())) {
          names.add(f.getName());
        }
      }
    }
    return names;
  }

  /** All calls live in one room: what is made goes into final fields, which only a constructor can fill. */
  private static void checkRoom() throws Exception {
    int elements = elementsOf(new SlabHeap());
    check(elements <= MOST_ELEMENTS, "an object has " + elements + " elements, at most " + MOST_ELEMENTS);
    Set<String> fields = finalFields();
    Pattern made = Pattern.compile("\\s+(?:private final \\S+ )?(\\w+) = new [^;]*;");
    for (String line : Files.readAllLines(Path.of("src/main/java/SlabHeap.java"))) {
      if (line.matches(".*\\bnew \\w+[(\\[].*")) {
        Matcher m = made.matcher(line);
        check(m.matches() && fields.contains(m.group(1)), "made for a final field: " + line.trim());
      }
    }
  }

  public static void main(String[] args) throws Exception {
    Set<String> face = documentFace();
    checkFace(face);
    checkNames(face);
    checkWords();
    checkRoom();
    check(SlabHeap.NONE == -1, "NONE is -1");
    System.out.println(wrong == 0 ? "the face is as due" : wrong + " things are not so");
    if (wrong != 0) {
      System.exit(1);
    }
  }
}
