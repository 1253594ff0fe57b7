import java.lang.reflect.Constructor;
import java.lang.reflect.Field;
import java.lang.reflect.Method;
import java.lang.reflect.Modifier;
import java.nio.file.Files;
import java.nio.file.Path;
import java.util.ArrayList;
import java.util.List;
import java.util.Set;
import java.util.TreeSet;
import java.util.regex.Matcher;
import java.util.regex.Pattern;

/** The class has the document's face and no other, and keeps to what can be seen of LANGUAGE.md's rules. */
public final class FaceAndLanguage {
    private static final Path SOURCE = Path.of("src/main/java/LaneStore.java");
    private static final Path DOCUMENT = Path.of("../shared/DOC.md");
    private static int wrong = 0;

    private static void must(boolean holds, String what) {
        if (!holds) {
            wrong++;
            System.out.println("not so: " + what);
        }
    }

    public static void main(String[] args) throws Exception {
        String source = Files.readString(SOURCE);
        face(Files.readString(DOCUMENT));
        classes();
        words(bare(source));
        methodsStayShort(source);
        System.out.println(wrong == 0 ? "face and language are kept" : wrong + " rules are broken");
        if (wrong != 0) {
            System.exit(1);
        }
    }

    private static void face(String document) {
        Set<String> want = new TreeSet<>();
        String block = document.substring(document.indexOf("```java"), document.indexOf("```\n\n## Terms"));
        Matcher m = Pattern.compile("public (int|long) (\\w+)\\(([^)]*)\\);").matcher(block);
        while (m.find()) {
            want.add(m.group(1) + " " + m.group(2) + "(" + m.group(3).replaceAll("int \\w+", "int") + ")");
        }
        must(want.size() == 52, "the document has 52 methods, not " + want.size());
        Set<String> got = new TreeSet<>();
        for (Method method : LaneStore.class.getDeclaredMethods()) {
            if (Modifier.isPrivate(method.getModifiers())) {
                continue;
            }
            must(Modifier.isPublic(method.getModifiers()) && !Modifier.isStatic(method.getModifiers()), method + " is public");
            List<String> types = new ArrayList<>();
            for (Class<?> type : method.getParameterTypes()) {
                types.add(type.getName());
            }
            got.add(method.getReturnType().getName() + " " + method.getName() + "(" + String.join(", ", types) + ")");
        }
        must(got.equals(want), "the face is " + want + "\n but there is " + got);
        must(Modifier.isFinal(LaneStore.class.getModifiers()), "the class is final");
        for (Constructor<?> c : LaneStore.class.getDeclaredConstructors()) {
            must(Modifier.isPublic(c.getModifiers()) && c.getParameterCount() == 0, c + " is the document's");
        }
        for (Field f : LaneStore.class.getDeclaredFields()) {
            must(Modifier.isPrivate(f.getModifiers()) || f.getName().equals("NONE"), f + " is private");
        }
    }

    private static void classes() {
        Set<String> publicNames = new TreeSet<>();
        for (Method m : LaneStore.class.getDeclaredMethods()) {
            if (Modifier.isPublic(m.getModifiers())) {
                publicNames.add(m.getName());
            }
        }
        List<Class<?>> all = new ArrayList<>(List.of(LaneStore.class.getDeclaredClasses()));
        must(all.size() + 1 <= 12, "twelve classes at the most");
        for (Class<?> c : all) {
            must(Modifier.isStatic(c.getModifiers()) && Modifier.isPrivate(c.getModifiers()), c + " is static and private");
        }
        all.add(LaneStore.class);
        for (Class<?> c : all) {
            int fields = 0;
            for (Field f : c.getDeclaredFields()) {
                fields += Modifier.isStatic(f.getModifiers()) ? 0 : 1;
                must(!Modifier.isStatic(f.getModifiers()) || Modifier.isFinal(f.getModifiers()), f + " is final");
            }
            must(fields <= 20, c + " has at most twenty fields");
            for (Method m : c.getDeclaredMethods()) {
                must(m.getParameterCount() <= 7, m + " has at most seven parameters");
                must(Modifier.isPublic(m.getModifiers()) || !publicNames.contains(m.getName()), m + " bears a public one's name");
            }
        }
    }

    private static String bare(String source) {
        return source.replaceAll("(?s)/\\*.*?\\*/", " ").replaceAll("//[^\n]*", " ");
    }

    private static void words(String code) {
        for (String word : new String[] {"throw", "throws", "try", "catch", "finally", "synchronized", "assert", "package",
            "protected", "native", "volatile", "transient", "System.out", "Random", "Exact", "Object", "hashCode", "equals"}) {
            must(!Pattern.compile("\\b" + Pattern.quote(word) + "\\b").matcher(code).find(), "no " + word);
        }
        must(!code.contains("->") && !code.contains("::"), "no lambda, no method reference");
        must(!code.contains("while (true)") && !code.contains("for (;"), "every loop has an end");
        Matcher imports = Pattern.compile("import ([\\w.]+);").matcher(code);
        while (imports.find()) {
            must(Set.of("java.util.Arrays", "java.util.ArrayList", "java.util.List").contains(imports.group(1)), imports.group());
        }
        must(code.chars().allMatch(c -> c < 128), "signs of 1 to 127 alone");
        // A remainder is below 0 when a counter has run over, and then it is no index.
        must(code.replace("x / 64 % m", "").indexOf('%') < 0, "no remainder but that of a draw, whose x is never below 0");
    }

    private static void methodsStayShort(String source) {
        String[] lines = source.split("\n");
        Pattern head = Pattern.compile("^( {4}| {8})(?! )[\\w\\[\\] ]+\\([^;]*\\) \\{$");
        for (int i = 0; i < lines.length; i++) {
            Matcher m = head.matcher(lines[i]);
            if (m.find() && !lines[i].trim().matches("(if|for|while|switch|else).*")) {
                int end = i;
                while (end < lines.length && !lines[end].equals(m.group(1) + "}")) {
                    end++;
                }
                must(end - i <= 60, "a method of " + (end - i) + " lines at " + (i + 1));
            }
        }
    }
}
