import java.lang.reflect.Array;
import java.lang.reflect.Constructor;
import java.lang.reflect.Field;
import java.lang.reflect.Method;
import java.lang.reflect.Modifier;
import java.nio.file.Files;
import java.nio.file.Path;
import java.util.Arrays;
import java.util.IdentityHashMap;
import java.util.Map;
import java.util.Set;
import java.util.TreeSet;
import java.util.regex.Matcher;
import java.util.regex.Pattern;

/** The public face, and the rules of LANGUAGE.md that can be read off the source; run from the project's folder. */
public final class RulesTest {
    private static final String SOURCE = "src/main/java/SquareLate.java";
    private static final String FACE = "int type(int) int clear() int square() int person(int,int) int cell(int,int)"
        + " int now(int) int walk(int,int) int die(int) int smoke(int,int) int deed(int,int) int day() int undo()"
        + " int done(int,int) int counts(int) int holder(int,int) int round() int votes(int) int nearer(int,int)"
        + " int hide(int,int,int) int blocks(int,int) int hides(int) long odds(int,int,int) int often(int,int)"
        + " int stood(int,int) int days(int,int) int together(int) int mark(int,int) int keep(int) int back(int)"
        + " int count(int) long trace()";

    private static int wrong = 0;

    private static void must(boolean holds, String rule) {
        if (!holds) {
            wrong++;
            System.out.println("not so: " + rule);
        }
    }

    public static void main(String[] args) throws Exception {
        face();
        insides();
        room();
        source(Files.readString(Path.of(SOURCE)));
        System.out.println(wrong == 0 ? "all rules are kept" : wrong + " rules are not kept");
        if (wrong != 0) {
            System.exit(1);
        }
    }

    private static void face() throws Exception {
        Class<?> it = SquareLate.class;
        must(Modifier.isPublic(it.getModifiers()) && Modifier.isFinal(it.getModifiers()), "public and final");
        Set<String> due = new TreeSet<>();
        Matcher calls = Pattern.compile("(?:int|long) \\w+\\([^)]*\\)").matcher(FACE);
        while (calls.find()) {
            due.add(calls.group());
        }
        Set<String> found = new TreeSet<>();
        for (Method method : it.getDeclaredMethods()) {
            if (!Modifier.isPrivate(method.getModifiers())) {
                String types = Arrays.toString(method.getParameterTypes()).replaceAll("[\\[\\] ]", "");
                found.add(method.getReturnType() + " " + method.getName() + "(" + types + ")");
                must(method.getModifiers() == Modifier.PUBLIC, "public, not static: " + method);
            }
        }
        must(due.equals(found), "the document's methods and no other: " + found);
        Set<String> fields = new TreeSet<>();
        for (Field field : it.getDeclaredFields()) {
            if (!Modifier.isPrivate(field.getModifiers())) {
                fields.add(field.getName() + "=" + field.getInt(null));
            }
        }
        must(fields.toString().equals("[BAD=-1, FULL=-3, NO=-1000000, NONE=-9, STATE=-2]"), "the constants: " + fields);
        Constructor<?>[] constructors = it.getDeclaredConstructors();
        must(constructors.length == 1 && Modifier.isPublic(constructors[0].getModifiers())
            && constructors[0].getParameterCount() == 0, "one public constructor");
    }

    private static void insides() {
        Set<String> names = new TreeSet<>();
        for (Method method : SquareLate.class.getDeclaredMethods()) {
            if (Modifier.isPublic(method.getModifiers())) {
                names.add(method.getName());
            }
        }
        Class<?>[] inside = SquareLate.class.getDeclaredClasses();
        must(inside.length <= 12, "some twelve classes");
        for (Class<?> each : inside) {
            must(Modifier.isStatic(each.getModifiers()), "static: " + each);
            must(!Modifier.isPublic(each.getModifiers()), "not public: " + each);
            for (Method method : each.getDeclaredMethods()) {
                must(!names.contains(method.getName()), "not a public name: " + method);
                must(method.getParameterCount() <= 7, "seven parameters at most: " + method);
            }
            for (Field field : each.getDeclaredFields()) {
                must(!Modifier.isStatic(field.getModifiers()) || Modifier.isFinal(field.getModifiers()), "final: " + field);
            }
        }
    }

    /** All calls of one run live in one room, so an object is small, and 512 calls leave it as large as it was. */
    private static void room() throws Exception {
        SquareLate town = new SquareLate();
        int first = size(town, new IdentityHashMap<>());
        for (char c : "p 5 7; p 9 12; c 1; r 0 1;".toCharArray()) {
            town.type(c);
        }
        town.square();
        for (int i = 0; i < 40; i++) {
            town.walk(0, i % 26);
            town.deed(1, i % 8);
            town.smoke(i % 25, 1);
            town.day();
            town.keep(i % 2);
            town.mark(i % 6, 0);
            town.holder(i % 8, i);
            town.hide(1, 2, 1);
            town.blocks(0, 1);
        }
        Map<Object, Object> all = new IdentityHashMap<>();
        int last = size(town, all);
        must(all.size() <= 50, "few objects: " + all.size());
        must(last <= 1100, "few fields and elements: " + last);
        must(first == last, "as large as it was: " + first + ", then " + last);
    }

    /** How many fields and elements an object and all that it holds have. */
    private static int size(Object it, Map<Object, Object> met) throws Exception {
        if (it == null || met.put(it, it) != null) {
            return 0;
        }
        int found = 0;
        if (it.getClass().isArray()) {
            found = Array.getLength(it);
            for (int i = 0; i < Array.getLength(it) && it instanceof Object[]; i++) {
                found += size(Array.get(it, i), met);
            }
            return found;
        }
        for (Class<?> each = it.getClass(); each != Object.class; each = each.getSuperclass()) {
            for (Field field : each.getDeclaredFields()) {
                if (!Modifier.isStatic(field.getModifiers())) {
                    field.setAccessible(true);
                    found += 1 + (field.getType().isPrimitive() ? 0 : size(field.get(it), met));
                }
            }
        }
        return found;
    }

    private static void source(String text) {
        must(text.chars().allMatch(c -> c == '\n' || c >= 32 && c < 127), "plain signs");
        String code = text.replaceAll("(?s)/\\*.*?\\*/", "").replaceAll("//[^\n]*", "");
        String[] barred = {
            "throw", "throws", "try", "catch", "synchronized", "assert", "import", "package", "protected", "static \\{",
            "->", "::", "@", "Exact", "hashCode", "toString", "double", "float", "Random", "volatile", "transient"
        };
        for (String word : barred) {
            String pattern = Character.isLetter(word.charAt(0)) ? "\\b" + word + "\\b" : word;
            must(!Pattern.compile(pattern).matcher(code).find(), "without " + word);
        }
        int length = 0;
        for (String line : code.split("\n")) {
            boolean made = Pattern.compile("\\bnew\\b").matcher(line).find();
            must(!made || line.matches(" +(private )?final .*|        new Plain\\(\\), .*"), "no call makes objects: " + line);
            length = line.matches("\\s*}") && line.length() <= 9 ? 0 : length + 1;
            must(length <= 60 || line.startsWith("    private") || line.isBlank(), "short methods: " + line);
        }
    }
}
