import java.lang.reflect.Constructor;
import java.lang.reflect.Field;
import java.lang.reflect.Method;
import java.lang.reflect.Modifier;
import java.nio.file.Files;
import java.nio.file.Path;
import java.util.ArrayList;
import java.util.Arrays;
import java.util.HashSet;
import java.util.List;
import java.util.Set;
import java.util.TreeSet;
import java.util.regex.Matcher;
import java.util.regex.Pattern;

/** The face is the document's and no more, and the source keeps to LANGUAGE.md where that can be read off. */
public final class FaceTest {
    private static final Due due = new Due("FaceTest");

    private static final String[] FACE = {
        "int text(int,int,int,int)", "int panel(int,int)", "long thrust(int,int)", "long pull(int,int)",
        "int thick(int,int)", "int rib(int)", "int spring(int,int)", "long poly(int)", "int folds(int,int)",
        "int fold(int,int)", "int bound(int)", "int joint(int,int,boolean)", "int bar(int,int,int,int)",
        "int cut(int,boolean)", "int about(int,int)", "int load(int,int,int,int)", "int net(int)",
        "long move(int,int)", "int stands(int)", "long push(int,int,int)", "long limit(int,int)", "int needs(int)",
        "int order(int,int)", "int hole(int,int,boolean)", "int skin(int)", "int sight(int,int,int)",
        "int quarrel(int,int)", "int most()", "long span(int,int,int)", "int sheet(int,int,int)", "int lose(int)",
        "int put(int,int,int)", "long cell(int,int,int)", "int tell(int)", "int sign(int)", "int as(int,int)",
        "int trace()", "int fault()", "int many(int)"};

    public static void main(String[] args) throws Exception {
        methods();
        fieldsAndConstructors();
        classesInside();
        source();
        due.end();
    }

    private static String told(Method method) {
        List<String> types = new ArrayList<>();
        for (Class<?> type : method.getParameterTypes()) {
            types.add(type.getName());
        }
        return method.getReturnType().getName() + " " + method.getName() + "(" + String.join(",", types) + ")";
    }

    private static Set<String> publicNames() {
        Set<String> names = new HashSet<>();
        for (String row : FACE) {
            names.add(row.substring(row.indexOf(' ') + 1, row.indexOf('(')));
        }
        return names;
    }

    private static void methods() {
        Set<String> found = new TreeSet<>();
        for (Method method : SkinLoads.class.getDeclaredMethods()) {
            if (Modifier.isPublic(method.getModifiers())) {
                found.add(told(method));
                due.holds(method + " is of the object", !Modifier.isStatic(method.getModifiers()));
            } else {
                due.holds(method + " is private", Modifier.isPrivate(method.getModifiers()));
                due.holds(method + " has a name of its own", !publicNames().contains(method.getName()));
            }
        }
        due.holds("the methods are the document's: " + found, found.equals(new TreeSet<>(Arrays.asList(FACE))));
    }

    private static void fieldsAndConstructors() {
        due.holds("public and final", SkinLoads.class.getModifiers() == (Modifier.PUBLIC | Modifier.FINAL));
        Constructor<?>[] constructors = SkinLoads.class.getDeclaredConstructors();
        due.is("constructors", constructors.length, 1);
        due.is("its parameters", constructors[0].getParameterCount(), 0);
        due.holds("it is public", Modifier.isPublic(constructors[0].getModifiers()));
        Set<String> constants = new TreeSet<>();
        for (Field field : SkinLoads.class.getDeclaredFields()) {
            if (Modifier.isPublic(field.getModifiers())) {
                constants.add(field.getType() + " " + field.getName());
                due.holds(field + " is constant",
                    Modifier.isStatic(field.getModifiers()) && Modifier.isFinal(field.getModifiers()));
            } else {
                due.holds(field + " is private", Modifier.isPrivate(field.getModifiers()));
            }
        }
        due.holds("the constants are the document's: " + constants, constants.equals(new TreeSet<>(Arrays.asList(
            "int UNKNOWN", "int OUTSIDE", "int STATE", "int FULL", "int NONE", "long LOST"))));
    }

    private static void classesInside() {
        Class<?>[] inside = SkinLoads.class.getDeclaredClasses();
        due.holds("some twelve classes", inside.length + 1 <= 12);
        for (Class<?> one : inside) {
            int modifiers = one.getModifiers();
            due.holds(one + " is static", Modifier.isStatic(modifiers));
            due.holds(one + " is not open", !Modifier.isPublic(modifiers) && !Modifier.isProtected(modifiers));
            int fields = 0;
            for (Field field : one.getDeclaredFields()) {
                fields += Modifier.isStatic(field.getModifiers()) ? 0 : 1;
                due.holds(field + ": what is static is final",
                    !Modifier.isStatic(field.getModifiers()) || Modifier.isFinal(field.getModifiers()));
            }
            due.holds(one + " has some twenty fields", fields <= 20);
            for (Method method : one.getDeclaredMethods()) {
                due.holds(method + " has a name of its own", !publicNames().contains(method.getName()));
                due.holds(method + " takes seven at most", method.getParameterCount() <= 7);
            }
        }
    }

    private static void source() throws Exception {
        String text = Files.readString(Path.of("src/main/java/SkinLoads.java"));
        due.holds("signs 1 to 127", text.chars().allMatch(c -> c > 0 && c < 128));
        String code = text.replaceAll("(?s)/\\*.*?\\*/", " ").replaceAll("//[^\n]*", " ");
        String[] words = {"throw", "throws", "try", "catch", "finally", "synchronized", "assert", "package", "protected",
            "native", "volatile", "transient", "float", "double", "char", "String", "Object", "System", "Thread",
            "Random", "equals", "hashCode", "toString", "var", "yield"};
        for (String word : words) {
            due.holds("no " + word, !Pattern.compile("\\b" + word + "\\b").matcher(code).find());
        }
        for (String part : new String[] {"->", "::", "@", "\"", "Exact"}) {
            due.holds("no " + part, !code.contains(part));
        }
        Matcher uses = Pattern.compile("\\b(Math|Integer|Long|Arrays)\\.(\\w+)").matcher(code);
        Set<String> listed = Set.of("Math.abs", "Math.max", "Math.min", "Integer.bitCount", "Long.compare",
            "Long.MIN_VALUE", "Arrays.fill");
        while (uses.find()) {
            due.holds(uses.group() + " is listed", listed.contains(uses.group()));
        }
        Matcher imports = Pattern.compile("import ([\\w.]+);").matcher(code);
        while (imports.find()) {
            due.holds(imports.group(), imports.group(1).equals("java.util.Arrays"));
        }
        methodsAreShort(code);
    }

    private static void methodsAreShort(String code) {
        int start = -1;
        String closing = "";
        String[] lines = code.split("\n");
        for (int k = 0; k < lines.length; k++) {
            Matcher opens = Pattern.compile("^( +)[\\w\\[\\] ]+\\([^)]*\\) \\{$").matcher(lines[k]);
            if (start < 0 && opens.find()) {
                start = k;
                closing = opens.group(1) + "}";
            } else if (start >= 0 && lines[k].equals(closing)) {
                due.holds("some sixty lines: " + lines[start].trim(), k - start < 60);
                start = -1;
            }
        }
        due.is("a method without an end", start, -1);
    }
}
