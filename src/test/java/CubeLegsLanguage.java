import java.io.IOException;
import java.lang.reflect.Field;
import java.lang.reflect.Member;
import java.lang.reflect.Method;
import java.lang.reflect.Modifier;
import java.nio.file.Files;
import java.nio.file.Path;
import java.util.Arrays;
import java.util.Set;
import java.util.TreeSet;
import java.util.regex.Matcher;
import java.util.regex.Pattern;

/** The face, and those rules of LANGUAGE.md that can be seen from the source's words. Runs at the project's root. */
public final class CubeLegsLanguage {
    private static final String[] FACE = {"sides(int)int", "parcel(int,int,int,int)int", "sets(int,int,int)int",
        "rules(int,int)int", "empties()int", "fills(int,int)int", "of(int,int)int", "step(int,int)int",
        "load(int,int)int", "loads(int)int", "expected(int,int,int)int", "part(int)int", "greatest()int",
        "chooses()int", "run(int)int", "ran(int,int,int)int", "best(int)int", "straight()int", "type(int)int",
        "clear()int", "reads()int", "back()int", "told(int)int", "digest()long"};
    private static final String[] FORBIDDEN = {"\\bthrow\\b", "\\bthrows\\b", "\\btry\\b", "\\bcatch\\b",
        "\\bsynchronized\\b", "\\bassert\\b", "->", "::", "Exact\\b", "\\bpackage\\b", "\\bRandom\\b", "\\bThread\\b",
        "\\bhashCode\\b", "\\btoString\\b", "\\bstatic\\s*\\{", "\\bvar\\b", "\\bObject\\b", "\\bdouble\\b", "\\bfloat\\b",
        "\\bprotected\\b", "\\bjava\\.(?!util\\.)"};
    /** What may stand behind a class's name and a dot: of rule 4, the part that this class has use for. */
    private static final String LISTED = "Math\\.(min|max|abs|floorDiv|floorMod)|Arrays\\.(fill|copyOf|copyOfRange)"
        + "|System\\.arraycopy";
    private static int wrong = 0;

    private static void check(boolean good, String what) {
        if (!good) {
            wrong++;
            System.out.println(what);
        }
    }

    private static boolean isPrivate(Member m) {
        return Modifier.isPrivate(m.getModifiers());
    }

    private static String signature(Method m) {
        StringBuilder s = new StringBuilder(m.getName()).append('(');
        Class<?>[] types = m.getParameterTypes();
        for (int i = 0; i < types.length; i++) {
            s.append(i == 0 ? "" : ",").append(types[i].getName());
        }
        return s.append(')').append(m.getReturnType().getName()).toString();
    }

    private static void checkFace() {
        Set<String> names = new TreeSet<>();
        Set<String> open = new TreeSet<>();
        for (Method m : CubeLegs.class.getDeclaredMethods()) {
            if (Modifier.isPublic(m.getModifiers())) {
                names.add(m.getName());
            }
            if (!isPrivate(m) && !m.isSynthetic()) {
                open.add(signature(m));
            }
        }
        check(open.equals(new TreeSet<>(Arrays.asList(FACE))), "rule 1: the methods are " + open);
        Set<String> constants = new TreeSet<>();
        for (Field f : CubeLegs.class.getDeclaredFields()) {
            if (!isPrivate(f)) {
                constants.add(f.getName());
            }
        }
        check(constants.equals(Set.of("NONE", "BAD", "NO", "FULL")), "rule 1: the constants are " + constants);
        check(Modifier.isFinal(CubeLegs.class.getModifiers()), "rule 1: the class is not final");
        check(CubeLegs.class.getDeclaredConstructors().length == 1, "rule 1: one constructor");
        checkClasses(names);
    }

    private static void checkClasses(Set<String> publicNames) {
        Class<?>[] inside = CubeLegs.class.getDeclaredClasses();
        check(inside.length <= 11, "rule 11: too many classes");
        checkMembers(CubeLegs.class);
        for (Class<?> c : inside) {
            boolean open = Modifier.isPublic(c.getModifiers()) || Modifier.isProtected(c.getModifiers());
            check(!open, "rule 1: " + c.getName() + " is neither private nor package-visible");
            check(Modifier.isStatic(c.getModifiers()), "rule 2: " + c.getName() + " is not static");
            check(c.getDeclaredClasses().length == 0, "rule 2: classes inside " + c.getName());
            checkMembers(c);
            for (Method m : c.getDeclaredMethods()) {
                check(!publicNames.contains(m.getName()), "rule 1: " + c.getName() + " has " + m.getName());
            }
        }
        for (Method m : CubeLegs.class.getDeclaredMethods()) {
            check(!isPrivate(m) || !publicNames.contains(m.getName()), "rule 1: private " + m.getName());
        }
    }

    private static void checkMembers(Class<?> c) {
        int fields = 0;
        for (Field f : c.getDeclaredFields()) {
            boolean isStatic = Modifier.isStatic(f.getModifiers());
            check(!isStatic || Modifier.isFinal(f.getModifiers()), "rule 5: " + f + " is not final");
            check(!isStatic || f.getType() == int.class, "rule 5: " + f + " is no constant of int");
            fields += isStatic ? 0 : 1;
        }
        check(fields <= 20, "rule 11: " + fields + " fields of " + c.getName());
        for (Method m : c.getDeclaredMethods()) {
            check(m.getParameterCount() <= 7, "rule 11: parameters of " + m);
        }
    }

    private static void checkWords(String source) {
        String code = source.replaceAll("(?s)/\\*.*?\\*/", "").replaceAll("//[^\n]*", "");
        for (String word : FORBIDDEN) {
            Matcher m = Pattern.compile(word).matcher(code);
            check(!m.find(), "the source has " + word);
        }
        Matcher library = Pattern.compile("\\b[A-Z]\\w*[a-z]\\w*\\.\\w+").matcher(code);
        while (library.find()) {
            check(library.group().matches(LISTED), "rule 4: " + library.group() + " is not listed");
        }
        Matcher imports = Pattern.compile("import\\s+([\\w.*]+)").matcher(code);
        while (imports.find()) {
            check(imports.group(1).matches("java\\.util\\.(Arrays|ArrayList|List|Iterator)"), imports.group(0));
        }
        check(source.chars().allMatch(c -> c < 128), "the source has signs above 127");
    }

    private static void checkLengths(String source) {
        String[] lines = source.split("\n");
        int start = -1;
        for (int i = 0; i < lines.length; i++) {
            boolean opens = lines[i].matches("( {4}| {8})\\S.*\\) \\{") || lines[i].matches(" {16}\\|\\|.*\\) \\{");
            if (opens && !lines[i].contains(" class ")) {
                start = i;
            } else if (lines[i].matches("( {4}| {8})\\}") && start >= 0) {
                check(i - start < 60, "rule 11: a method of " + (i - start) + " lines at line " + (start + 1));
                start = -1;
            }
        }
    }

    public static void main(String[] args) throws IOException {
        checkFace();
        String source = Files.readString(Path.of("src/main/java/CubeLegs.java"));
        checkWords(source);
        checkLengths(source);
        System.out.println(wrong == 0 ? "all rules looked at are kept" : wrong + " rules are broken");
        if (wrong != 0) {
            System.exit(1);
        }
    }
}
