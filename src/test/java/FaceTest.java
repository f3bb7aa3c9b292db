import java.io.IOException;
import java.lang.reflect.Constructor;
import java.lang.reflect.Field;
import java.lang.reflect.Member;
import java.lang.reflect.Method;
import java.lang.reflect.Modifier;
import java.nio.file.Files;
import java.nio.file.Path;
import java.util.ArrayList;
import java.util.List;
import java.util.Set;
import java.util.TreeSet;
import java.util.regex.Matcher;
import java.util.regex.Pattern;

/** The face is the document's and no more; the source keeps to the rules of LANGUAGE.md that a text search can see. */
public final class FaceTest {
    private static final Check CHECK = new Check();

    private static final String[] CALLS = {
        "codes 2", "sets 2", "does 3", "strikes 2", "bends 2", "mends 1", "undo 0", "register 2", "weight 1",
        "distance 2", "least 2", "round 1", "plain 2", "same 2", "missed 0", "odds 2", "sees 2", "forget 0",
        "unseen 1", "next 0", "keep 1", "back 1", "count 1"
    };

    private static final String[] CONSTANTS = {"BAD", "STATE", "FULL", "OVER", "LOST", "NONE"};

    private static final String[] FORBIDDEN = {
        "\\bthrow\\b", "\\bthrows\\b", "\\btry\\b", "\\bcatch\\b", "\\bfinally\\b", "\\bsynchronized\\b",
        "\\bassert\\b", "\\bnative\\b", "\\bvolatile\\b", "->", "::", "\\w+Exact\\b", "\\bstatic\\s*\\{",
        "\\bSystem\\.(?!arraycopy)", "\\bpackage\\b", "\\bhashCode\\b", "\\btoString\\b", "\\bequals\\b",
        "\\bfloat\\b", "\\bdouble\\b", "@\\w+"
    };

    public static void main(String[] args) throws IOException {
        theClass();
        theMembers();
        theClassesInside();
        theSource(Files.readString(Path.of("src/main/java/CodedWords.java")));
        CHECK.end();
    }

    private static void theClass() {
        int is = CodedWords.class.getModifiers();
        CHECK.holds("the class is public and final", Modifier.isPublic(is) && Modifier.isFinal(is));
        CHECK.due("BAD", CodedWords.BAD, -1000001);
        CHECK.due("STATE", CodedWords.STATE, -1000002);
        CHECK.due("FULL", CodedWords.FULL, -1000003);
        CHECK.due("OVER", CodedWords.OVER, -1000004);
        CHECK.due("LOST", CodedWords.LOST, -1000005);
        CHECK.due("NONE", CodedWords.NONE, -1000000);
    }

    private static void theMembers() {
        Set<String> calls = new TreeSet<>();
        Set<String> hidden = new TreeSet<>();
        for (Method method : CodedWords.class.getDeclaredMethods()) {
            if (isHidden(method)) {
                hidden.add(method.getName());
                continue;
            }
            calls.add(method.getName() + " " + method.getParameterCount());
            CHECK.holds(method + " is public, of the object, of ints", isCall(method));
        }
        CHECK.holds("the calls are the document's: " + calls, calls.equals(new TreeSet<>(List.of(CALLS))));
        for (String call : CALLS) {
            String name = call.substring(0, call.indexOf(' '));
            CHECK.holds("no private method is named " + name, !hidden.contains(name));
        }
        Set<String> constants = new TreeSet<>();
        for (Field field : CodedWords.class.getDeclaredFields()) {
            if (!isHidden(field)) {
                constants.add(field.getName());
            }
        }
        CHECK.holds("the constants are the document's: " + constants, constants.equals(new TreeSet<>(List.of(CONSTANTS))));
        Constructor<?>[] made = CodedWords.class.getDeclaredConstructors();
        CHECK.holds("one public constructor of nothing",
            made.length == 1 && Modifier.isPublic(made[0].getModifiers()) && made[0].getParameterCount() == 0);
    }

    private static boolean isHidden(Member member) {
        return Modifier.isPrivate(member.getModifiers());
    }

    private static boolean isCall(Method method) {
        boolean ints = method.getReturnType() == int.class;
        for (Class<?> type : method.getParameterTypes()) {
            ints = ints && type == int.class;
        }
        return ints && Modifier.isPublic(method.getModifiers()) && !Modifier.isStatic(method.getModifiers());
    }

    private static void theClassesInside() {
        Class<?>[] inside = CodedWords.class.getDeclaredClasses();
        CHECK.holds("at most twelve classes", inside.length + 1 <= 12);
        List<Class<?>> all = new ArrayList<>(List.of(inside));
        all.add(CodedWords.class);
        for (Class<?> one : all) {
            int fields = 0;
            for (Field field : one.getDeclaredFields()) {
                boolean fixed = Modifier.isStatic(field.getModifiers());
                fields += fixed ? 0 : 1;
                CHECK.holds(field + " is final if static", !fixed || Modifier.isFinal(field.getModifiers()));
            }
            CHECK.holds(one + " has at most twenty fields", fields <= 20);
            for (Method method : one.getDeclaredMethods()) {
                CHECK.holds(method + " takes at most seven parameters", method.getParameterCount() <= 7);
            }
        }
        for (Class<?> one : inside) {
            int is = one.getModifiers();
            CHECK.holds(one + " is static and not public", Modifier.isStatic(is) && !Modifier.isPublic(is));
        }
    }

    private static void theSource(String text) {
        String bare = text.replaceAll("(?s)/\\*.*?\\*/", "").replaceAll("//[^\n]*", "");
        for (String pattern : FORBIDDEN) {
            Matcher found = Pattern.compile(pattern).matcher(bare);
            CHECK.holds("the source is without " + pattern, !found.find());
        }
        Matcher imports = Pattern.compile("\\bimport\\s+([^;]+);").matcher(bare);
        while (imports.find()) {
            CHECK.holds("import " + imports.group(1), imports.group(1).equals("java.util.Arrays"));
        }
        CHECK.holds("the source is plain ASCII", text.chars().allMatch(sign -> sign < 128));
    }
}
