import java.lang.reflect.Constructor;
import java.lang.reflect.Field;
import java.lang.reflect.Member;
import java.lang.reflect.Method;
import java.lang.reflect.Modifier;
import java.nio.file.Files;
import java.nio.file.Path;
import java.util.ArrayList;
import java.util.List;
import java.util.Set;
import java.util.TreeSet;
import java.util.regex.Matcher;
import java.util.regex.Pattern;

/** The class has just the document's face, and its file keeps to what LANGUAGE.md leaves. */
public final class FaceTest {
  private static int wrong = 0;

  private static final Set<String> FACE = Set.of(
      "public static final int NONE",
      "public SlabHeap()",
      "public int alloc(int,int)",
      "public int free(int)",
      "public boolean put(int,int,int)",
      "public boolean refer(int,int,int)",
      "public int get(int,int)",
      "public boolean root(int,int)",
      "public int rootOf(int)",
      "public int fence()",
      "public int crash(int)",
      "public int collect()",
      "public int word(int,boolean)",
      "public boolean scribble(int,int)",
      "public int block(int,int)",
      "public int live(int)",
      "public int page(int,int)",
      "public int extents(int)",
      "public int next(int)",
      "public int count(int)",
      "public int head(int,int,int)",
      "public int waits(int)",
      "public int trouble()");

  private static void check(boolean holds, String what) {
    if (!holds) {
      wrong++;
      System.out.println("not so: " + what);
    }
  }

  private static String parameters(Class<?>[] types) {
    List<String> names = new ArrayList<>();
    for (Class<?> type : types) {
      names.add(type.getSimpleName());
    }
    return "(" + String.join(",", names) + ")";
  }

  private static void addUnlessPrivate(Set<String> members, Member member, String text) {
    if (!Modifier.isPrivate(member.getModifiers()) && !member.isSynthetic()) {
      members.add((Modifier.toString(member.getModifiers()) + " " + text).trim());
    }
  }

  private static void checkFace() {
    Set<String> members = new TreeSet<>();
    for (Field f : SlabHeap.class.getDeclaredFields()) {
      addUnlessPrivate(members, f, f.getType().getSimpleName() + " " + f.getName());
    }
    for (Constructor<?> c : SlabHeap.class.getDeclaredConstructors()) {
      addUnlessPrivate(members, c, "SlabHeap" + parameters(c.getParameterTypes()));
    }
    for (Method m : SlabHeap.class.getDeclaredMethods()) {
      addUnlessPrivate(members, m,
          m.getReturnType().getSimpleName() + " " + m.getName() + parameters(m.getParameterTypes()));
    }
    check(members.equals(new TreeSet<>(FACE)), "the face is the document's, but is " + members);
    int modifiers = SlabHeap.class.getModifiers();
    check(Modifier.isPublic(modifiers) && Modifier.isFinal(modifiers), "the class is public and final");
  }

  private static void checkNames() {
    Set<String> open = new TreeSet<>();
    for (String member : FACE) {
      Matcher m = Pattern.compile("(\\w+)\\(").matcher(member);
      if (m.find()) {
        open.add(m.group(1));
      }
    }
    List<Class<?>> classes = new ArrayList<>(List.of(SlabHeap.class.getDeclaredClasses()));
    check(classes.size() <= 11, "at most twelve classes");
    for (Class<?> inside : classes) {
      check(Modifier.isStatic(inside.getModifiers()), inside + " is static");
    }
    classes.add(SlabHeap.class);
    for (Class<?> c : classes) {
      for (Method m : c.getDeclaredMethods()) {
        boolean isPublic = Modifier.isPublic(m.getModifiers());
        check(isPublic || !open.contains(m.getName()), m + " has a name of its own");
        check(m.getParameterCount() <= 7, m + " has at most seven parameters");
      }
      int fields = 0;
      for (Field f : c.getDeclaredFields()) {
        boolean fixed = Modifier.isStatic(f.getModifiers());
        check(!fixed || Modifier.isFinal(f.getModifiers()), f + " is final");
        fields += fixed ? 0 : 1;
      }
      check(fields <= 20, c + " has at most twenty fields");
    }
  }

  private static void checkWords() throws Exception {
    String text = Files.readString(Path.of("src/main/java/SlabHeap.java"));
    String code = text.replaceAll("(?s)/\\*.*?\\*/", " ").replaceAll("//[^\n]*", " ");
    for (String word : List.of("throw", "throws", "try", "catch", "finally", "synchronized", "assert",
        "package", "System", "Random", "Thread", "Object", "hashCode", "toString")) {
      check(!Pattern.compile("\\b" + word + "\\b").matcher(code).find(), "no " + word);
    }
    check(!code.contains("->") && !code.contains("::"), "no lambda and no method reference");
    check(!Pattern.compile("\\w+Exact\\b").matcher(code).find(), "nothing whose name ends in Exact");
    Matcher imports = Pattern.compile("import ([\\w.*]+);").matcher(code);
    while (imports.find()) {
      check(Set.of("java.util.Arrays", "java.util.ArrayList", "java.util.List").contains(imports.group(1)),
          "import of " + imports.group(1));
    }
  }

  public static void main(String[] args) throws Exception {
    checkFace();
    checkNames();
    checkWords();
    check(SlabHeap.NONE == -1, "NONE is -1");
    System.out.println(wrong == 0 ? "the face is as due" : wrong + " things are not so");
    if (wrong != 0) {
      System.exit(1);
    }
  }
}
