import java.lang.reflect.Constructor;
import java.lang.reflect.Field;
import java.lang.reflect.Method;
import java.lang.reflect.Modifier;
import java.nio.charset.StandardCharsets;
import java.nio.file.Files;
import java.nio.file.Path;
import java.util.HashSet;
import java.util.Set;
import java.util.TreeSet;
import java.util.regex.Matcher;
import java.util.regex.Pattern;

/** What of LANGUAGE.md can be seen by looking: run from the project's root, where .ci/run is. */
public final class SoapDeedsLanguage {
    private static final String FACE = "boolean carry(int,int) boolean end(int) boolean on() boolean seed(int) boolean swing(int,int) "
        + "boolean tiptoe(int,int) boolean undo() int bubble(int,int) int chance(int) int deed(int,int) int door(int,int) "
        + "int doors(int,int,int) int draught(int,int) int fault(int) int feed(int,int,int,int,int) int feel() int from(int,int) "
        + "int goes(int) int has(int) int heir(int,int) int image() int kept(int,int) int lamp(int) int lasts(int,int) "
        + "int later(int,int,int) int letter(int,int,int) int octet(int) int odds(int,int) int owner(int,int) int room() "
        + "int seconds(int) int shine(int,int) int stand(int,int,int) int status(int) int tells(int,int)";
    private static int wrong = 0;

    public static void main(String[] args) throws Exception {
        String source = Files.readString(Path.of("src/main/java/SoapDeeds.java"), StandardCharsets.ISO_8859_1);
        words(code(source));
        lengths(source);
        face();
        Set<String> open = new HashSet<>();
        for (Method m : SoapDeeds.class.getDeclaredMethods()) {
            if (Modifier.isPublic(m.getModifiers())) {
                open.add(m.getName());
            }
        }
        int classes = 1;
        for (Class<?> c : SoapDeeds.class.getDeclaredClasses()) {
            classes++;
            nested(c, open);
        }
        nested(SoapDeeds.class, open);
        if (classes > 12) {
            say(classes + " classes");
        }
        System.out.println(wrong == 0 ? "the language is kept to" : wrong + " things are outside the language");
        if (wrong != 0) {
            System.exit(1);
        }
    }

    private static void say(String what) {
        wrong++;
        System.out.println(what);
    }

    private static String code(String source) {
        return source.replaceAll("(?s)/\\*.*?\\*/", "").replaceAll("//[^\n]*", "").replaceAll("\"[^\"\n]*\"", "\"\"");
    }

    private static void words(String code) {
        String[] never = {"throw", "try", "catch", "finally", "synchronized", "assert", "throws", "package", "new Object", "->", "::",
            "Exact\\(", "System\\.(?!arraycopy)", "Random", "Thread", "Math\\.(?!min|max|floorDiv|floorMod)", "hashCode", "toString",
            "while \\(true", "for \\(;;"};
        for (String word : never) {
            String pattern = Character.isLetter(word.charAt(0)) ? "\\b" + word : word;
            pattern += word.matches("[a-z]+") ? "\\b" : "";
            Matcher m = Pattern.compile(pattern).matcher(code);
            if (m.find()) {
                say("the source has " + word);
            }
        }
        Matcher m = Pattern.compile("import ([^;]*);").matcher(code);
        while (m.find()) {
            if (!m.group(1).equals("java.util.Arrays")) {
                say("the source imports " + m.group(1));
            }
        }
        for (int k = 0; k < code.length(); k++) {
            if (code.charAt(k) > 126) {
                say("a sign above 126 at " + k);
            }
        }
    }

    private static void lengths(String source) {
        Pattern head = Pattern.compile("( {4}| {8})[a-zA-Z\\[\\] ]+\\([^;]*\\) \\{");
        String name = "";
        int start = 0;
        int indent = 0;
        String[] lines = source.split("\n");
        for (int k = 0; k < lines.length; k++) {
            Matcher m = head.matcher(lines[k]);
            if (m.matches()) {
                name = lines[k].trim();
                start = k;
                indent = m.group(1).length();
            } else if (!name.isEmpty() && lines[k].equals(" ".repeat(indent) + "}")) {
                if (k - start + 1 > 60) {
                    say(name + " has " + (k - start + 1) + " lines");
                }
                name = "";
            }
        }
    }

    private static void face() {
        Set<String> got = new TreeSet<>();
        for (Method m : SoapDeeds.class.getDeclaredMethods()) {
            StringBuilder b = new StringBuilder(m.getReturnType() + " " + m.getName() + "(");
            for (Class<?> p : m.getParameterTypes()) {
                b.append(b.charAt(b.length() - 1) == '(' ? "" : ",").append(p);
            }
            if (!Modifier.isPrivate(m.getModifiers())) {
                got.add(b + ")");
            }
        }
        if (!String.join(" ", got).equals(FACE)) {
            say("the face is " + String.join(" ", got));
        }
        for (Field f : SoapDeeds.class.getDeclaredFields()) {
            if (!Modifier.isPrivate(f.getModifiers()) && !f.getName().equals("NONE")) {
                say("the field " + f.getName() + " can be seen");
            }
        }
        Constructor<?>[] made = SoapDeeds.class.getDeclaredConstructors();
        if (made.length != 1 || made[0].getParameterCount() != 0 || !Modifier.isPublic(made[0].getModifiers())) {
            say("the constructors");
        }
        if (!Modifier.isFinal(SoapDeeds.class.getModifiers()) || !Modifier.isPublic(SoapDeeds.class.getModifiers())) {
            say("the class is not public and final");
        }
    }

    private static void nested(Class<?> c, Set<String> open) {
        boolean outer = c == SoapDeeds.class;
        if (!outer && (!Modifier.isStatic(c.getModifiers()) || Modifier.isPublic(c.getModifiers()))) {
            say(c + " is not static and hidden");
        }
        int fields = 0;
        for (Field f : c.getDeclaredFields()) {
            boolean isStatic = Modifier.isStatic(f.getModifiers());
            fields += isStatic ? 0 : 1;
            if (isStatic && !Modifier.isFinal(f.getModifiers())) {
                say(f + " is static, but not final");
            }
        }
        if (fields > 20) {
            say(c + " has " + fields + " fields");
        }
        for (Method m : c.getDeclaredMethods()) {
            if (m.getParameterCount() > 7) {
                say(m + " has too many parameters");
            }
            if (open.contains(m.getName()) && !(outer && Modifier.isPublic(m.getModifiers()))) {
                say(m + " bears the name of a public one");
            }
        }
    }
}
