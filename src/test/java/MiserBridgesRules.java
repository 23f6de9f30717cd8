import java.io.IOException;
import java.lang.reflect.Array;
import java.lang.reflect.Constructor;
import java.lang.reflect.Executable;
import java.lang.reflect.Field;
import java.lang.reflect.Method;
import java.lang.reflect.Modifier;
import java.nio.file.Files;
import java.nio.file.Path;
import java.util.ArrayList;
import java.util.Arrays;
import java.util.IdentityHashMap;
import java.util.List;
import java.util.Map;
import java.util.Set;
import java.util.TreeSet;
import java.util.regex.Matcher;
import java.util.regex.Pattern;

/** The face of the class, and what the rules of the language leave, as far as it can be seen. */
public final class MiserBridgesRules {
    private static final Path SOURCE = Path.of("src/main/java/MiserBridges.java");
    /** 512 objects made in one run still leave it room. */
    private static final int MOST_ELEMENTS = 7_300_000 / 512;
    private static int wrong = 0;

    private static final String FACE = "int bridge(int,int,int,boolean) int chain(int,int,int)"
        + " int load(int,int) int one(int,int) int weight(int) int where(int) int lying()"
        + " int type(long,int) int clear() int read() int step(int,int) int undo()"
        + " int way(int,int,int) int reach(int) int can(int) int closed(int) int child(int)"
        + " int cut(int,int) int tie(int,int) int stone(int,int,int) int keep(int,int,int)"
        + " int wet(int,int,int,int) int image(int) int from(int) int status(int)"
        + " int count(int) long digest()";

    private static void must(boolean holds, String rule) {
        if (!holds) {
            wrong++;
            System.out.println("broken: " + rule);
        }
    }

    private static String told(Method m) {
        StringBuilder s = new StringBuilder(m.getReturnType() + " " + m.getName() + "(");
        for (Class<?> type : m.getParameterTypes()) {
            s.append(s.charAt(s.length() - 1) == '(' ? "" : ",").append(type);
        }
        return s.append(")").toString();
    }

    private static void face() {
        Class<?> c = MiserBridges.class;
        must(Modifier.isPublic(c.getModifiers()) && Modifier.isFinal(c.getModifiers()), "1: public final");
        Set<String> open = new TreeSet<>();
        for (Method m : c.getDeclaredMethods()) {
            if (Modifier.isPublic(m.getModifiers())) {
                open.add(told(m));
            } else {
                must(Modifier.isPrivate(m.getModifiers()), "1: " + m + " is not private");
            }
        }
        Set<String> want = new TreeSet<>(Arrays.asList(FACE.split(" (?=int |long )")));
        must(open.equals(want), "1: the face is " + open + ", due is " + want);
        Set<String> constants = new TreeSet<>();
        for (Field f : c.getDeclaredFields()) {
            if (!Modifier.isPrivate(f.getModifiers())) {
                constants.add(f.getName());
            }
        }
        must(constants.equals(Set.of("NONE", "BAD", "NO", "FULL")), "1: constants " + constants);
        Constructor<?>[] made = c.getDeclaredConstructors();
        must(made.length == 1 && made[0].getParameterCount() == 0
            && Modifier.isPublic(made[0].getModifiers()), "1: one public constructor");
    }

    private static List<Class<?>> classes() {
        List<Class<?>> all = new ArrayList<>(List.of(MiserBridges.class));
        all.addAll(Arrays.asList(MiserBridges.class.getDeclaredClasses()));
        return all;
    }

    private static void inside() {
        Set<String> open = new TreeSet<>();
        for (Method m : MiserBridges.class.getMethods()) {
            open.add(m.getName());
        }
        must(classes().size() <= 12, "11: " + classes().size() + " classes");
        for (Class<?> c : classes()) {
            boolean outer = c == MiserBridges.class;
            must(outer || Modifier.isStatic(c.getModifiers()), "2: " + c + " is not static");
            must(c.getDeclaredClasses().length == 0 || outer, "2: classes inside " + c);
            int fields = 0;
            for (Field f : c.getDeclaredFields()) {
                fields += Modifier.isStatic(f.getModifiers()) ? 0 : 1;
                must(!Modifier.isStatic(f.getModifiers()) || Modifier.isFinal(f.getModifiers()),
                    "5: " + f + " is not final");
            }
            must(fields <= 20, "11: " + fields + " fields in " + c);
            for (Method m : c.getDeclaredMethods()) {
                must(outer && Modifier.isPublic(m.getModifiers()) || !open.contains(m.getName()),
                    "1: " + m + " bears a public name");
                fewParameters(m);
            }
            for (Constructor<?> made : c.getDeclaredConstructors()) {
                fewParameters(made);
            }
        }
    }

    private static void fewParameters(Executable e) {
        must(e.getParameterCount() <= 7, "11: parameters of " + e);
    }

    private static void words() throws IOException {
        String source = Files.readString(SOURCE);
        String bare = source.replaceAll("(?s)/\\*.*?\\*/", "").replaceAll("//[^\n]*", "")
            .replaceAll("\"(\\\\.|[^\"\\\\])*\"", "\"\"");
        for (String word : List.of("throw", "throws", "try", "catch", "synchronized", "assert",
            "finally", "native", "package", "transient", "volatile", "var", "yield", "System.out",
            "System.err", "Exact", "Object", "hashCode", "toString")) {
            must(!Pattern.compile("\\b" + Pattern.quote(word) + "\\b").matcher(bare).find(),
                "4, 6: " + word);
        }
        for (String sign : List.of("->", "::", "@", "java.lang", "[][]")) {
            must(!bare.contains(sign), "2, 4: " + sign);
        }
        Matcher imports = Pattern.compile("import ([^;]*);").matcher(bare);
        while (imports.find()) {
            must(Set.of("java.util.Arrays", "java.util.ArrayList", "java.util.List",
                "java.util.Iterator").contains(imports.group(1)), "4: " + imports.group());
        }
        must(source.chars().allMatch(sign -> sign < 128), "3: a sign beyond 127");
    }

    /** A method's first line stands four or eight in, and its last brace below it. */
    private static void lengths() throws IOException {
        List<String> lines = Files.readAllLines(SOURCE);
        for (int i = 0; i < lines.size(); i++) {
            Matcher head = Pattern.compile("( {4}| {8})[^ ].*\\) \\{").matcher(lines.get(i));
            if (head.matches() && !lines.get(i).trim().startsWith("}")) {
                int end = i + 1;
                while (end < lines.size() && !lines.get(end).equals(head.group(1) + "}")) {
                    end++;
                }
                must(end - i <= 60, "11: " + (end - i) + " lines of " + lines.get(i).trim());
            }
        }
    }

    private static void room() throws IllegalAccessException {
        int elements = elementsOf(new MiserBridges(), new IdentityHashMap<>());
        must(elements <= MOST_ELEMENTS, "12: " + elements + " fields and elements of an object");
    }

    private static int elementsOf(Object o, Map<Object, Object> seen)
            throws IllegalAccessException {
        if (o == null || seen.put(o, o) != null) {
            return 0;
        }
        int sum = 0;
        if (o.getClass().isArray()) {
            sum = Array.getLength(o);
            for (int i = 0; i < Array.getLength(o) && o instanceof Object[]; i++) {
                sum += elementsOf(Array.get(o, i), seen);
            }
            return sum;
        }
        for (Class<?> c = o.getClass(); c != Object.class; c = c.getSuperclass()) {
            for (Field f : c.getDeclaredFields()) {
                if (!Modifier.isStatic(f.getModifiers())) {
                    f.setAccessible(true);
                    sum += 1 + (f.getType().isPrimitive() ? 0 : elementsOf(f.get(o), seen));
                }
            }
        }
        return sum;
    }

    public static void main(String[] args) throws IOException, IllegalAccessException {
        face();
        inside();
        words();
        lengths();
        room();
        System.out.println(wrong == 0 ? "the rules hold" : wrong + " rules are broken");
        if (wrong != 0) {
            System.exit(1);
        }
    }
}
