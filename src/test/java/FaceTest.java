import java.lang.reflect.Constructor;
import java.lang.reflect.Field;
import java.lang.reflect.Method;
import java.lang.reflect.Modifier;
import java.nio.file.Files;
import java.nio.file.Path;
import java.util.Map;
import java.util.Set;
import java.util.TreeMap;
import java.util.TreeSet;
import java.util.regex.Matcher;
import java.util.regex.Pattern;

/** The public face, and those rules of LANGUAGE.md that can be seen in the class or in its words. */
public final class FaceTest {
    private static final Check CHECK = new Check();
    private static final String FACE = "aim3 book3 bundle2 bundles2 count1 cut0 distribute1 draw1 drop1 end1 feed5 fold0"
            + " gather0 good1 job4 key2 left1 letter2 letters0 line2 mount2 number1 on2 order1 page4 pattern2 piece2"
            + " pile2 point4 print1 set1 settled1 sorts3 strike1 strip2 times2 when2 where2 zone2";

    /** Rule 4, as far as it is used. */
    private static final Set<String> LIBRARY = Set.of("Math.min", "Math.max", "Math.abs", "Math.floorDiv",
            "Integer.bitCount", "System.arraycopy", "String");

    public static void main(String[] args) throws Exception {
        face();
        inside();
        String source = Files.readString(Path.of("src/main/java/PaperHouse.java"))
                .replaceAll("(?s)/\\*.*?\\*/", "").replaceAll("//[^\n]*", "");
        words(source);
        library(source);
        methods(source);
        CHECK.finish();
    }

    private static void face() throws Exception {
        CHECK.due("public and final", Modifier.isPublic(PaperHouse.class.getModifiers())
                && Modifier.isFinal(PaperHouse.class.getModifiers()));
        Set<String> open = new TreeSet<>();
        Set<String> hidden = new TreeSet<>();
        for (Method m : PaperHouse.class.getDeclaredMethods()) {
            if (Modifier.isPrivate(m.getModifiers())) {
                hidden.add(m.getName());
            } else {
                CHECK.due(m + " is public", Modifier.isPublic(m.getModifiers()) && m.getReturnType() == int.class);
                open.add(m.getName() + m.getParameterCount());
                CHECK.due("of ints " + m, Set.of(int.class).containsAll(Set.of(distinct(m.getParameterTypes()))));
            }
        }
        CHECK.due("methods " + open, open.equals(new TreeSet<>(Set.of(FACE.split(" ")))));
        for (String name : hidden) {
            CHECK.due("no public name: " + name, !FACE.matches(".*\\b" + name + "\\d.*"));
        }
        Constructor<?>[] constructors = PaperHouse.class.getDeclaredConstructors();
        CHECK.due("one constructor", constructors.length, 1);
        CHECK.due("public, of nothing", Modifier.isPublic(constructors[0].getModifiers())
                && constructors[0].getParameterCount() == 0);
        Map<String, Integer> constants = new TreeMap<>();
        for (Field f : PaperHouse.class.getDeclaredFields()) {
            if (!Modifier.isPrivate(f.getModifiers())) {
                constants.put(f.getName(), f.getInt(null));
            }
        }
        CHECK.due("constants " + constants, constants.equals(Map.of("NONE", -1, "STATE", -3, "FULL", -4)));
    }

    private static Class<?>[] distinct(Class<?>[] types) {
        return new java.util.LinkedHashSet<>(java.util.List.of(types)).toArray(new Class<?>[0]);
    }

    private static void inside() {
        Class<?>[] classes = PaperHouse.class.getDeclaredClasses();
        CHECK.due("at most twelve classes", classes.length + 1 <= 12);
        for (Class<?> c : classes) {
            CHECK.due(c + " is private and static", Modifier.isPrivate(c.getModifiers())
                    && Modifier.isStatic(c.getModifiers()));
            int fields = 0;
            for (Field f : c.getDeclaredFields()) {
                boolean fixed = Modifier.isStatic(f.getModifiers());
                fields += fixed ? 0 : 1;
                CHECK.due(f + " is final if static", !fixed || Modifier.isFinal(f.getModifiers()));
            }
            CHECK.due(c + " has at most twenty fields", fields <= 20);
            for (Method m : c.getDeclaredMethods()) {
                CHECK.due(m + " has at most seven parameters", m.getParameterCount() <= 7);
                CHECK.due(m + " bears no public name", !FACE.matches(".*\\b" + m.getName() + "\\d.*"));
            }
        }
    }

    private static void words(String source) {
        String[] forbidden = {"throw", "throws", "try", "catch", "synchronized", "assert", "import", "package", "null",
            "double", "float", "var", "native", "hashCode", "toString", "Thread", "Random"};
        for (String word : forbidden) {
            CHECK.due("no " + word, !source.matches("(?s).*\\b" + word + "\\b.*"));
        }
        CHECK.due("no lambda", !source.contains("->"));
        CHECK.due("no method reference", !source.contains("::"));
        CHECK.due("texts are not joined by +", !source.matches("(?s).*(\"\\s*\\+|\\+\\s*\").*"));
    }

    /** Each class that is named is one of the file's own, or stands in rule 4 with what is used of it. */
    private static void library(String source) {
        Set<String> own = new TreeSet<>(Set.of("PaperHouse"));
        for (Class<?> c : PaperHouse.class.getDeclaredClasses()) {
            own.add(c.getSimpleName());
        }
        Matcher names = Pattern.compile("(?<![\\w.])[A-Z]\\w*[a-z]\\w*(\\.\\w+)?").matcher(source);
        while (names.find()) {
            String name = names.group();
            CHECK.due("may be used: " + name, LIBRARY.contains(name) || own.contains(name.replaceAll("\\..*", "")));
        }
    }

    /** Methods stay short, and objects are made by constructors alone. */
    private static void methods(String source) {
        String head = "(?m)^( {4}| {8})(?!if|for|while|switch|do|\\}| )[\\w\\[\\] ]+\\(.*\\) \\{$";
        Matcher heads = Pattern.compile(head).matcher(source);
        int found = 0;
        while (heads.find()) {
            int end = source.indexOf("\n" + heads.group(1) + "}", heads.end());
            String body = source.substring(heads.end(), end);
            String name = heads.group().trim();
            boolean isConstructor = name.matches("(public )?[A-Z]\\w*\\(\\) \\{");
            CHECK.due("short: " + name, body.lines().count() <= 60);
            CHECK.due("makes nothing: " + name, isConstructor || !body.matches("(?s).*\\bnew\\b.*"));
            found++;
        }
        CHECK.due("methods that were looked at: " + found, found > 150);
    }
}
