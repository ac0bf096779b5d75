import java.io.IOException;
import java.lang.reflect.Constructor;
import java.lang.reflect.Field;
import java.lang.reflect.Method;
import java.lang.reflect.Modifier;
import java.nio.charset.StandardCharsets;
import java.nio.file.Files;
import java.nio.file.Path;
import java.util.List;
import java.util.Set;
import java.util.TreeSet;
import java.util.regex.Matcher;
import java.util.regex.Pattern;

/** The rules of ../shared/LANGUAGE.md, as far as they can be seen from the text and by reflection. */
public final class LanguageTest {
    private static final Set<String> LIBRARY = Set.of("length", "charAt", "indexOf", "min", "max", "bitCount", "fill", "arraycopy");
    private static final List<String> BARRED = List.of("package", "throw", "throws", "try", "catch", "finally", "synchronized", "assert",
        "native", "volatile", "transient", "protected", "Object", "var", "hashCode", "toString", "double", "float", "yield", "Exact");
    private static int wrong = 0;

    private static void must(boolean holds, String what) {
        if (!holds) {
            wrong++;
            System.out.println("against the rules: " + what);
        }
    }

    public static void main(String[] args) throws IOException {
        String source = Files.readString(Path.of("src/main/java/CageLift.java"), StandardCharsets.ISO_8859_1);
        text(source);
        lengths(source);
        face();
        TreeSet<String> publics = new TreeSet<>();
        for (Method m : CageLift.class.getDeclaredMethods()) if (Modifier.isPublic(m.getModifiers())) publics.add(m.getName());
        shape(CageLift.class, publics);
        for (Class<?> c : CageLift.class.getDeclaredClasses()) {
            must(Modifier.isStatic(c.getModifiers()), c + " isn't static");
            must(c.getDeclaredClasses().length == 0, c + " has classes inside");
            shape(c, publics);
        }
        must(CageLift.class.getDeclaredClasses().length <= 11, "more than twelve classes");
        System.out.println(wrong == 0 ? "the rules are kept" : wrong + " breaches");
        if (wrong != 0) System.exit(1);
    }

    private static void text(String source) {
        for (char c : source.toCharArray()) must(c == 10 || c >= 32 && c < 127, "a sign " + (int) c);
        String bare = source.replaceAll("(?s)/\\*.*?\\*/", "").replaceAll("//[^\n]*", "");
        must(!Pattern.compile("\"\\s*\\+|\\+\\s*\"").matcher(bare).find(), "texts joined by +");
        bare = bare.replaceAll("\"[^\"]*\"", "\"\"").replaceAll("'[^']*'", "' '");
        for (String word : BARRED) must(!Pattern.compile("\\b" + word + "\\b").matcher(bare).find(), word);
        must(!bare.contains("->") && !bare.contains("::") && !bare.contains("@"), "a lambda, a method reference, an annotation");
        must(!Pattern.compile("static\\s*\\{").matcher(bare).find(), "a static block");
        must(!Pattern.compile("new \\w+\\([^;]*\\)\\s*\\{").matcher(bare).find(), "an anonymous class");
        Matcher imports = Pattern.compile("import ([\\w.]+);").matcher(bare);
        while (imports.find()) must(imports.group(1).equals("java.util.Arrays"), "import " + imports.group(1));
        Set<String> own = new TreeSet<>();
        Matcher declared = Pattern.compile("(?:int|long|boolean|void|Network|Rings) (\\w+)\\([^)]*\\) \\{").matcher(bare);
        while (declared.find()) own.add(declared.group(1));
        Matcher calls = Pattern.compile("\\.(\\w+)\\(").matcher(bare);
        while (calls.find()) must(own.contains(calls.group(1)) || LIBRARY.contains(calls.group(1)), "a call of " + calls.group(1));
    }

    private static void lengths(String source) {
        String[] lines = source.split("\n");
        for (int i = 0; i < lines.length; i++) {
            Matcher begin = Pattern.compile("^( {4}| {8})(?! ).*\\) \\{$").matcher(lines[i]);
            if (!begin.find()) continue;
            int end = i;
            while (!lines[end].equals(begin.group(1) + "}")) end++;
            must(end - i <= 60, "a long method: " + lines[i].trim());
        }
    }

    /** The public face is that of the document and no more. */
    private static void face() throws IOException {
        String doc = Files.readString(Path.of("../shared/DOC.md"));
        String block = doc.substring(doc.indexOf("```java"), doc.indexOf("```", doc.indexOf("```java") + 7));
        TreeSet<String> due = new TreeSet<>();
        Matcher m = Pattern.compile("public (int|long) (\\w+)\\(([^)]*)\\);").matcher(block);
        while (m.find()) due.add(m.group(1) + " " + m.group(2) + "(" + m.group(3).replaceAll("(int|long) \\w+", "$1").replace(" ", "") + ")");
        TreeSet<String> got = new TreeSet<>();
        for (Method own : CageLift.class.getDeclaredMethods()) {
            if (!Modifier.isPublic(own.getModifiers())) continue;
            StringBuilder b = new StringBuilder(own.getReturnType() + " " + own.getName() + "(");
            for (Class<?> p : own.getParameterTypes()) b.append(b.charAt(b.length() - 1) == '(' ? "" : ",").append(p);
            got.add(b.append(")").toString());
        }
        must(due.size() == 48 && got.equals(due), "the face: " + got + " for " + due);
        must(Modifier.isFinal(CageLift.class.getModifiers()) && Modifier.isPublic(CageLift.class.getModifiers()), "public and final");
        for (Field f : CageLift.class.getDeclaredFields()) must(Modifier.isPrivate(f.getModifiers()) || f.getName().equals("NONE"), "field " + f);
        for (Method own : CageLift.class.getDeclaredMethods()) {
            must(Modifier.isPublic(own.getModifiers()) || Modifier.isPrivate(own.getModifiers()), "visible: " + own);
        }
        Constructor<?>[] made = CageLift.class.getDeclaredConstructors();
        must(made.length == 1 && Modifier.isPublic(made[0].getModifiers()) && made[0].getParameterCount() == 0, "one constructor");
    }

    private static void shape(Class<?> c, Set<String> publics) {
        int fields = 0;
        for (Field f : c.getDeclaredFields()) {
            if (!Modifier.isStatic(f.getModifiers())) {
                fields++;
                continue;
            }
            must(Modifier.isFinal(f.getModifiers()), "a static field that can change: " + f);
            must(Set.of("int", "long", "boolean", "char", "class java.lang.String", "class [I", "class [J", "class [C", "class [B").contains(f.getType().toString()), "a static field's type: " + f);
        }
        must(fields <= 20, c + " has " + fields + " fields");
        for (Method m : c.getDeclaredMethods()) {
            must(m.getParameterCount() <= 7, "many parameters: " + m);
            must(c == CageLift.class && Modifier.isPublic(m.getModifiers()) || !publics.contains(m.getName()), "a public one's name: " + m);
        }
    }
}
