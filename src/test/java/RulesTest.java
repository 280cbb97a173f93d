import java.lang.reflect.Constructor;
import java.lang.reflect.Field;
import java.lang.reflect.Method;
import java.lang.reflect.Modifier;
import java.nio.charset.StandardCharsets;
import java.nio.file.Files;
import java.nio.file.Paths;
import java.util.Arrays;
import java.util.List;
import java.util.Map;
import java.util.Set;
import java.util.TreeMap;
import java.util.TreeSet;
import java.util.regex.Matcher;
import java.util.regex.Pattern;

/** What of LANGUAGE.md, and of the document's face, can be read off the source and the class. Runs in the project's folder. */
public final class RulesTest {
  private static final String SOURCE = "src/main/java/VotesOnTree.java";
  private static final List<String> FACE = Arrays.asList("int asks(int,int)", "int back()", "int cell(int,int,int)",
      "long chance(int,int,int)", "int copy(int,int,int,int,int)", "int count(int)", "int counts(int)", "int cut(int)",
      "int cuts(int,int,int)", "int drawn(int)", "int feed(int)", "int force(int)", "int graft(int)", "int grow(int,int,int)",
      "int image()", "int law()", "int lopsided(int)", "int minds(int,int,int)", "int nodes(int,int,int,int)", "int pass()",
      "int prop()", "int set(int,int,int)", "int sheet(int,int,int)", "long sure(int,int)", "int taken(int,int)", "int text()",
      "int told(int,int)", "int turns(int,int)", "int whoCut(int,int)");
  private static final List<String> CONSTANTS = Arrays.asList("NONE", "BAD", "STATE", "FULL", "NO");
  private static final String[] RULED_OUT = {"\\bthrow\\b", "\\bthrows\\b", "\\btry\\b", "\\bcatch\\b", "\\bfinally\\b",
    "\\bsynchronized\\b", "\\bassert\\b", "->", "::", "\\bpackage\\b", "\\bnative\\b", "\\bvolatile\\b", "\\bgoto\\b",
    "\\bSystem\\.(?!arraycopy\\b)", "\\bArrays\\.(?!fill\\b|copyOf\\b|copyOfRange\\b)", "\\bMath\\.\\w*Exact\\b", "\\bThread\\b",
    "\\bRandom\\b", "\\bimport (?!java\\.util\\.Arrays;)", "\\bstatic \\{", "\\bvar\\b", "\\bthis::", "\\bObject\\b", "@"};

  private static int wrong = 0;

  private static void must(boolean so, String what) {
    if (!so) {
      wrong++;
      System.out.println("not as ruled: " + what);
    }
  }

  public static void main(String[] args) throws Exception {
    String code = bare(new String(Files.readAllBytes(Paths.get(SOURCE)), StandardCharsets.ISO_8859_1));
    for (String ruledOut : RULED_OUT) {
      Matcher m = Pattern.compile(ruledOut).matcher(code);
      must(!m.find(), "rules 4, 6, 13: " + ruledOut);
    }
    methodsAreShort(code);
    loopsEnd(code);
    callsStayShallow(code);
    face();
    Class<?>[] inside = VotesOnTree.class.getDeclaredClasses();
    must(inside.length <= 12, "rule 11: classes inside");
    classKeepsRules(VotesOnTree.class);
    for (Class<?> c : inside) {
      must(Modifier.isStatic(c.getModifiers()) && !Modifier.isPublic(c.getModifiers()) && !Modifier.isProtected(c.getModifiers()),
          "rules 1, 2: " + c);
      classKeepsRules(c);
    }
    System.out.println(wrong == 0 ? "all is as ruled" : wrong + " things are not as ruled");
    if (wrong != 0) System.exit(1);
  }

  /** The source without comments and without what texts and signs hold. */
  private static String bare(String source) {
    return source.replaceAll("(?s)/\\*.*?\\*/", "").replaceAll("//[^\n]*", "").replaceAll("\"(\\\\.|[^\"\\\\])*\"", "\"\"")
        .replaceAll("'(\\\\.|[^'\\\\])'", "' '");
  }

  private static Matcher methods(String code) {
    return Pattern.compile("(?m)^( +)(?:public |private |static |final )*[\\w\\[\\]<>]+ ?\\b(\\w*)\\([^;{]*\\) \\{\n(.*?)^\\1\\}", Pattern.DOTALL)
        .matcher(code);
  }

  private static void methodsAreShort(String code) {
    Matcher m = methods(code);
    int found = 0;
    while (m.find()) {
      found++;
      must(m.group(3).split("\n").length <= 60, "rule 11: a long method, " + m.group().split("\n")[0].trim());
    }
    must(found > 60, "methods found in the source: " + found);
  }

  /** By names, of which each is but once in the file: methods that call one another count as one. */
  private static void callsStayShallow(String code) {
    Map<String, Set<String>> calls = new TreeMap<>();
    Matcher m = methods(code);
    while (m.find()) {
      Set<String> called = new TreeSet<>();
      Matcher c = Pattern.compile("(\\w+)\\(").matcher(m.group(3));
      while (c.find()) called.add(c.group(1));
      // A constructor has no type ahead of its name.
      String name = m.group(2).isEmpty() ? "new " + m.group().replaceAll("(?s)\\(.*", "").replaceAll(".* ", "") : m.group(2);
      must(calls.put(name, called) == null, "two methods " + name);
    }
    for (Set<String> called : calls.values()) called.retainAll(calls.keySet());
    must(calls.keySet().containsAll(Arrays.asList("new VotesOnTree", "cuts", "vote", "text", "readsE", "spells")), "methods found: " + calls.keySet());
    for (String name : calls.keySet()) {
      int deep = depth(name, calls);
      must(deep <= 8, "rule 11: " + name + " goes " + deep + " deep");
    }
  }

  private static Set<String> reached(String from, Map<String, Set<String>> calls) {
    Set<String> seen = new TreeSet<>(calls.get(from));
    for (int size = -1; size != seen.size();) {
      size = seen.size();
      for (String name : seen.toArray(new String[0])) seen.addAll(calls.get(name));
    }
    return seen;
  }

  private static int depth(String name, Map<String, Set<String>> calls) {
    Set<String> ring = new TreeSet<>();
    for (String other : reached(name, calls)) if (reached(other, calls).contains(name)) ring.add(other);
    ring.add(name);
    int most = 0;
    for (String one : ring) {
      for (String next : calls.get(one)) if (!ring.contains(next)) most = Math.max(most, depth(next, calls));
    }
    return most + 1;
  }

  /** A while must compare a counter; a for must have a bound. */
  private static void loopsEnd(String code) {
    Matcher whiles = Pattern.compile("while \\(([^\n]*)\\) \\{").matcher(code);
    while (whiles.find()) {
      must(whiles.group(1).contains(" < "), "rule 9: while (" + whiles.group(1) + ")");
    }
    Matcher fors = Pattern.compile("for \\(([^;\n]*);([^;\n]*);").matcher(code);
    while (fors.find()) {
      must(fors.group(2).matches(".*( < | > | >= ).*"), "rule 9: for (" + fors.group(2) + ")");
    }
  }

  private static void face() {
    must(Modifier.isPublic(VotesOnTree.class.getModifiers()) && Modifier.isFinal(VotesOnTree.class.getModifiers()), "rule 1: the class");
    Set<String> seen = new TreeSet<>();
    Set<String> names = new TreeSet<>();
    for (Method m : VotesOnTree.class.getDeclaredMethods()) {
      if (Modifier.isPublic(m.getModifiers())) {
        StringBuilder told = new StringBuilder(m.getReturnType().getName()).append(' ').append(m.getName()).append('(');
        for (int i = 0; i < m.getParameterCount(); i++) {
          told.append(i > 0 ? "," : "").append(m.getParameterTypes()[i].getName());
        }
        seen.add(told.append(')').toString());
        names.add(m.getName());
      } else {
        must(Modifier.isPrivate(m.getModifiers()), "rule 1: " + m);
      }
    }
    must(seen.equals(new TreeSet<>(FACE)), "rule 1: the face is " + seen);
    for (Field f : VotesOnTree.class.getDeclaredFields()) {
      boolean constant = CONSTANTS.contains(f.getName()) && Modifier.isPublic(f.getModifiers()) && Modifier.isStatic(f.getModifiers());
      must(constant || Modifier.isPrivate(f.getModifiers()), "rule 1: " + f);
    }
    Constructor<?>[] made = VotesOnTree.class.getDeclaredConstructors();
    must(made.length == 1 && Modifier.isPublic(made[0].getModifiers()) && made[0].getParameterCount() == 0, "rule 1: the constructor");
    for (Class<?> c : VotesOnTree.class.getDeclaredClasses()) {
      for (Method m : c.getDeclaredMethods()) {
        must(!names.contains(m.getName()), "rule 1: a method inside bears a public name, " + m);
      }
    }
    for (Method m : VotesOnTree.class.getDeclaredMethods()) {
      must(Modifier.isPublic(m.getModifiers()) || !names.contains(m.getName()), "rule 1: " + m);
    }
  }

  private static void classKeepsRules(Class<?> c) {
    int fields = 0;
    for (Field f : c.getDeclaredFields()) {
      if (Modifier.isStatic(f.getModifiers())) {
        must(Modifier.isFinal(f.getModifiers()), "rule 5: " + f);
      } else {
        fields++;
      }
    }
    must(fields <= 20, "rule 11: fields of " + c);
    for (Method m : c.getDeclaredMethods()) {
      must(m.getParameterCount() <= 7, "rule 11: " + m);
      must(!Arrays.asList("equals", "hashCode", "toString").contains(m.getName()), "rule 6: " + m);
      must(!m.isSynthetic(), "rule 2: " + m);
    }
  }
}
