import java.io.IOException;
import java.lang.reflect.Field;
import java.lang.reflect.Member;
import java.lang.reflect.Method;
import java.lang.reflect.Modifier;
import java.nio.file.Files;
import java.nio.file.Path;
import java.util.ArrayList;
import java.util.List;
import java.util.Set;
import java.util.TreeSet;
import java.util.regex.Matcher;
import java.util.regex.Pattern;

/** The document's face, and the rules of LANGUAGE.md that can be read off the class or its file. */
public final class LanguageTest {
    private static final Path FILE = Path.of("src/main/java/NobodyBetween.java");
    private static final Path DOCUMENT = Path.of("../shared/DOC.md");
    /** What the class uses of the library that LANGUAGE.md lists, beside a String's length and signs. */
    private static final Set<String> LIBRARY = Set.of("Arrays.fill", "System.arraycopy", "Integer.bitCount",
            "Math.abs", "Math.max", "Math.min");
    private static int wrong = 0;

    private static void due(boolean is, String what) {
        if (!is) {
            wrong++;
            System.out.println("not so: " + what);
        }
    }

    public static void main(String[] args) throws IOException {
        String source = Files.readString(FILE);
        String code = source.replaceAll("(?s)/\\*.*?\\*/", "").replaceAll("//[^\n]*", "")
                .replaceAll("\"[^\"\n]*\"", "\"\"");
        face();
        members();
        words(code);
        library(code);
        methods(code);
        System.out.println(wrong == 0 ? "the face and the language are as told" : wrong + " are not as told");
        if (wrong != 0) {
            System.exit(1);
        }
    }

    private static void face() throws IOException {
        Set<String> told = new TreeSet<>();
        Matcher row = Pattern.compile("(?m)^    public (int \\w+\\([^)]*\\));").matcher(Files.readString(DOCUMENT));
        while (row.find()) {
            told.add(row.group(1).replaceAll("(int|boolean) \\w+(?=[,)])", "$1"));
        }
        Set<String> found = new TreeSet<>();
        for (Method method : NobodyBetween.class.getDeclaredMethods()) {
            if (Modifier.isPublic(method.getModifiers())) {
                StringBuilder text = new StringBuilder("int " + method.getName() + "(");
                for (Class<?> type : method.getParameterTypes()) {
                    text.append(text.charAt(text.length() - 1) == '(' ? "" : ", ").append(type.getName());
                }
                found.add(text.append(")").toString());
                due(method.getReturnType() == int.class, method + " answers an int");
            }
        }
        due(told.size() == 46, "the document has 46 methods, found " + told.size());
        due(told.equals(found), "the face: due " + told + ", found " + found);
        int modifiers = NobodyBetween.class.getModifiers();
        due(Modifier.isPublic(modifiers) && Modifier.isFinal(modifiers), "public and final");
        due(NobodyBetween.class.getConstructors().length == 1, "one public constructor");
    }

    private static List<Class<?>> classes() {
        List<Class<?>> all = new ArrayList<>(List.of(NobodyBetween.class.getDeclaredClasses()));
        all.add(NobodyBetween.class);
        return all;
    }

    private static void members() {
        Set<String> publicNames = new TreeSet<>();
        for (Method method : NobodyBetween.class.getMethods()) {
            publicNames.add(method.getName());
        }
        due(classes().size() <= 12, "at most twelve classes");
        for (Class<?> type : classes()) {
            due(type == NobodyBetween.class || Modifier.isStatic(type.getModifiers()), type + " is static");
            int fields = 0;
            for (Field field : type.getDeclaredFields()) {
                boolean isStatic = Modifier.isStatic(field.getModifiers());
                due(!isStatic || Modifier.isFinal(field.getModifiers()), field + " is final");
                due(type != NobodyBetween.class || isPrivate(field), field + " is private");
                fields += isStatic ? 0 : 1;
            }
            due(fields <= 20, type + " has at most twenty fields");
            for (Method method : type.getDeclaredMethods()) {
                boolean ofFace = type == NobodyBetween.class && Modifier.isPublic(method.getModifiers());
                due(ofFace || !publicNames.contains(method.getName()), method + " bears no public name");
                due(type != NobodyBetween.class || ofFace || isPrivate(method), method + " is private");
                due(method.getParameterCount() <= 7, method + " takes at most seven");
            }
        }
    }

    private static boolean isPrivate(Member member) {
        return Modifier.isPrivate(member.getModifiers());
    }

    private static void words(String code) {
        String[] banned = {"throw", "throws", "try", "catch", "synchronized", "assert", "package", "var", "yield",
            "Exact", "hashCode", "toString", "System\\.out", "System\\.exit", "Random", "Thread", "nanoTime"};
        for (String word : banned) {
            due(!Pattern.compile("\\b" + word + "\\b").matcher(code).find(), "no " + word);
        }
        due(!code.contains("->") && !code.contains("::"), "no lambda, no method reference");
        due(!code.contains("static {"), "no static initialiser");
        Matcher imported = Pattern.compile("(?m)^import (.*);").matcher(code);
        while (imported.find()) {
            due(imported.group(1).equals("java.util.Arrays"), "no import of " + imported.group(1));
        }
        for (int i = 0; i < code.length(); i++) {
            due(code.charAt(i) < 127, "signs below 127");
        }
    }

    private static void library(String code) {
        Matcher used = Pattern.compile("\\b[A-Z]\\w*\\.\\w+(?=\\()").matcher(code);
        while (used.find()) {
            due(LIBRARY.contains(used.group()), "no " + used.group());
        }
    }

    /** Methods by their braces: some sixty lines are told as the most. */
    private static void methods(String code) {
        int lines = 0;
        boolean inside = false;
        String indent = "";
        for (String line : code.split("\n")) {
            if (!inside && line.matches(" +[\\w\\[\\]. ]+\\([^;]*\\) \\{")) {
                inside = true;
                lines = 0;
                indent = line.replaceAll("\\S.*", "");
            }
            lines++;
            if (inside && line.equals(indent + "}")) {
                inside = false;
                due(lines <= 60, "a method of " + lines + " lines");
            }
        }
    }
}
