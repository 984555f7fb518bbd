import java.lang.reflect.Constructor;
import java.lang.reflect.Field;
import java.lang.reflect.Method;
import java.lang.reflect.Modifier;
import java.nio.charset.StandardCharsets;
import java.nio.file.Files;
import java.nio.file.Path;
import java.util.Arrays;
import java.util.List;
import java.util.TreeSet;
import java.util.regex.Matcher;
import java.util.regex.Pattern;

/** The face of the class, and the rules of LANGUAGE.md that can be seen from outside or in its text. */
public final class RuleTests {
    private static final List<String> FACE = Arrays.asList(
            "int account(int)", "int append(int)", "int areJoined(int,int)", "int areJoinedAgain(int,int)",
            "int bank(int)", "int bankOf(int,int)", "int belowAgain(int)", "int cut(int,int)",
            "int describe(int)", "int inRound(int,int)", "int isBelow(int,int)", "int isRope(int,int)",
            "int isWell()", "int join(int,int)", "int mean()", "int meet(int,int)", "int middle(int)",
            "int partOf(int,int)", "int ranked(int)", "int read()", "int refusal(int)", "int restore()",
            "int rise(int,int)", "int save()", "int sign(int)", "int tell(int)", "int turn(int)",
            "int undo()", "int way(int,int,int)", "int weigh(int,int)", "int would(int,int)",
            "int wouldDiffer(int,int)");
    private static final List<String> FORBIDDEN = Arrays.asList(
            "import", "package", "synchronized", "assert", "finally", "try", "catch", "throw", "throws",
            "volatile", "transient", "native", "yield", "sealed", "goto", "strictfp", "var", "System",
            "Float", "Double", "Character", "Thread", "Object", "Exception");

    private static int passed;
    private static int failed;

    private static void check(String name, boolean ok, String told) {
        if (ok) {
            passed++;
        } else {
            failed++;
            System.out.println(name + ": " + told);
        }
    }

    private static String faceOf(Method method) {
        StringBuilder face = new StringBuilder(method.getReturnType() + " " + method.getName() + "(");
        for (Class<?> type : method.getParameterTypes()) {
            face.append(face.toString().endsWith("(") ? "" : ",").append(type);
        }
        return face.append(")").toString();
    }

    private static void face() {
        TreeSet<String> publicOnes = new TreeSet<>();
        TreeSet<String> openOnes = new TreeSet<>();
        for (Method method : FerryRounds.class.getDeclaredMethods()) {
            if (Modifier.isPublic(method.getModifiers()) && !Modifier.isStatic(method.getModifiers())) {
                publicOnes.add(faceOf(method));
            } else if (!Modifier.isPrivate(method.getModifiers())) {
                openOnes.add(faceOf(method));
            }
        }
        TreeSet<String> constants = new TreeSet<>();
        for (Field field : FerryRounds.class.getDeclaredFields()) {
            if (Modifier.isPublic(field.getModifiers())) {
                constants.add(Modifier.toString(field.getModifiers()) + " " + field.getType() + " " + field.getName());
            } else if (!Modifier.isPrivate(field.getModifiers())) {
                openOnes.add(field.getName());
            }
        }
        Constructor<?>[] constructors = FerryRounds.class.getDeclaredConstructors();
        check("methods", publicOnes.equals(new TreeSet<>(FACE)), "public are " + publicOnes);
        check("constants", constants.toString().equals("[public static final int BAD, public static final int NONE, "
                + "public static final int NOTHING, public static final int REFUSED]"), "public are " + constants);
        check("members", openOnes.isEmpty(), "neither public nor private are " + openOnes);
        check("constructor", constructors.length == 1 && Modifier.isPublic(constructors[0].getModifiers())
                && constructors[0].getParameterCount() == 0, "is not one public one without parameters");
        check("class", Modifier.toString(FerryRounds.class.getModifiers()).equals("public final"), "not public final");
        check("implements", FerryRounds.class.getInterfaces().length == 0
                && FerryRounds.class.getSuperclass() == Object.class, "has others above it");
    }

    private static void inside() {
        TreeSet<String> names = new TreeSet<>();
        for (String face : FACE) {
            names.add(face.substring(4, face.indexOf('(')));
        }
        TreeSet<String> wrong = new TreeSet<>();
        int classes = 1;
        for (Class<?> inner : FerryRounds.class.getDeclaredClasses()) {
            classes++;
            int modifiers = inner.getModifiers();
            if (Modifier.isPublic(modifiers) || Modifier.isProtected(modifiers) || !Modifier.isStatic(modifiers)) {
                wrong.add(inner.getName());
            }
            for (Method method : inner.getDeclaredMethods()) {
                if (names.contains(method.getName())) {
                    wrong.add(inner.getName() + "." + method.getName());
                }
            }
            for (Field field : inner.getDeclaredFields()) {
                if (Modifier.isStatic(field.getModifiers()) && !Modifier.isFinal(field.getModifiers())) {
                    wrong.add(inner.getName() + "." + field.getName());
                }
            }
        }
        for (Method method : FerryRounds.class.getDeclaredMethods()) {
            if (!Modifier.isPublic(method.getModifiers()) && names.contains(method.getName())) {
                wrong.add(method.getName());
            }
        }
        check("classes inside", wrong.isEmpty(), "against rule 1 or 5: " + wrong);
        check("classes", classes <= 12, classes + " classes");
    }

    private static void text(String source) {
        String code = source.replaceAll("/\\*(?s:.*?)\\*/", "").replaceAll("//[^\n]*", "");
        Matcher words = Pattern.compile("[A-Za-z_]\\w*").matcher(code);
        TreeSet<String> wrong = new TreeSet<>();
        while (words.find()) {
            if (FORBIDDEN.contains(words.group())) {
                wrong.add(words.group());
            }
        }
        check("words", wrong.isEmpty(), "not in the rules' part of Java: " + wrong);
        check("signs", code.chars().allMatch(c -> c == '\n' || c >= 32 && c < 127), "others than 32 to 126");
        check("functions", !code.contains("->") && !code.contains("::"), "a lambda or a method reference");
        Matcher calls = Pattern.compile("\\b(Integer|Long|Math|Arrays|String)\\.(\\w+)").matcher(code);
        TreeSet<String> library = new TreeSet<>();
        while (calls.find()) {
            library.add(calls.group());
        }
        library.removeAll(Arrays.asList("Integer.bitCount", "Math.abs", "Math.max", "Math.min"));
        check("library", library.isEmpty(), "not looked at yet: " + library);
        check("while", !code.contains("while"), "a loop whose end is not in its own line");
    }

    // No method of some length, none with many parameters.
    private static void shape(String source) {
        int longest = 0;
        int start = -1;
        String[] lines = source.split("\n");
        for (int i = 0; i < lines.length; i++) {
            if (lines[i].matches("( {4}| {8})[a-z].*\\(.*\\) \\{") && !lines[i].matches(" *(for|if|switch|else).*")) {
                start = i;
            } else if (start >= 0 && lines[i].matches("( {4}| {8})\\}") && lines[i].indexOf('}')
                    == lines[start].length() - lines[start].replaceAll("^ +", "").length()) {
                longest = Math.max(longest, i - start + 1);
                start = -1;
            }
        }
        check("methods' lengths", longest > 5 && longest <= 60, "the longest has " + longest + " lines");
    }

    public static void main(String[] args) throws Exception {
        String source = new String(Files.readAllBytes(Path.of("src/main/java/FerryRounds.java")),
                StandardCharsets.UTF_8);
        face();
        inside();
        text(source);
        shape(source);
        System.out.println(passed + " passed, " + failed + " failed");
        System.exit(failed == 0 ? 0 : 1);
    }
}
