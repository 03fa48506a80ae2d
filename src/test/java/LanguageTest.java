import java.io.IOException;
import java.lang.reflect.Field;
import java.lang.reflect.Method;
import java.lang.reflect.Modifier;
import java.nio.file.Files;
import java.nio.file.Path;
import java.util.ArrayList;
import java.util.List;
import java.util.regex.Matcher;
import java.util.regex.Pattern;

/** The rules of ../shared/LANGUAGE.md that can be seen from outside, and the face that the document prints. */
public final class LanguageTest {
    private static final String[] FACE = {
        "int feed(int)", "int house()", "int child(int,int)", "int was(int,int)", "int door(int,int)",
        "int deed(int,int)", "int fact(int,int,int,int)", "int unfact()", "int chance(int,int)",
        "int ways(int,int)", "int can(int)", "int where(int,int)", "long who(int,int)", "int likeliest()",
        "int says(int,int,int,int)", "int hush()", "int holds(int)", "int together(int)", "int most(int)",
        "int ask(int,int,int,int)", "int first()", "int tale(int,int)", "long lasts(int,int)", "int half()",
        "int law(int,int,int,int)", "int byLaws(int,int)", "int old(int,int,int,int)", "int punish(int)",
        "long missed(int,int)", "int learn(int,int,int)", "int row(int)", "int judge()", "int seeds(int,int,int)",
        "int image()", "int restore()", "int count(int)"
    };
    private static final String[] FORBIDDEN = {
        "\\bthrows?\\b", "\\btry\\b", "\\bcatch\\b", "\\bsynchronized\\b", "\\bassert\\b", "\\bimport\\b",
        "\\bpackage\\b", "->", "::", "@", "\\bstatic\\s*\\{", "\\bdouble\\b", "\\bfloat\\b", "\\bprotected\\b",
        "Exact\\b", "\\bequals\\b", "\\bhashCode\\b", "\\btoString\\b", "\\bvar\\b", "\\bvolatile\\b", "\\bnative\\b"
    };

    public static void main(String[] args) throws IOException {
        String code = withoutComments(Files.readString(Path.of("src/main/java/ItWasLikeThat.java")));
        for (String word : FORBIDDEN) {
            Due.due(word, Pattern.compile(word).matcher(code).find() ? 1 : 0, 0);
        }
        library(code);
        methodsAreShort(code);
        face();
        insides();
        Due.end();
    }

    private static String withoutComments(String code) {
        return code.replaceAll("(?s)/\\*.*?\\*/", "").replaceAll("//[^\n]*", "");
    }

    private static void library(String code) {
        Matcher m = Pattern.compile("\\b(Integer|Long|Math|System|Arrays|String|StringBuilder|Object)\\.(\\w+)")
            .matcher(code);
        List<String> allowed = List.of("Integer.bitCount", "Integer.numberOfLeadingZeros", "Math.min", "Math.max",
            "System.arraycopy");
        while (m.find()) {
            Due.due("library: " + m.group(), allowed.contains(m.group()) ? 1 : 0, 1);
        }
    }

    private static void methodsAreShort(String code) {
        String[] lines = code.split("\n");
        Pattern begin = Pattern.compile("^( {4}| {8})\\S.*\\) \\{$");
        for (int i = 0; i < lines.length; i++) {
            Matcher m = begin.matcher(lines[i]);
            if (m.find()) {
                int end = i;
                while (end < lines.length && !lines[end].equals(m.group(1) + "}")) {
                    end++;
                }
                Due.due("a method above 60 lines: " + lines[i].trim(), end - i < 60 ? 0 : 1, 0);
            }
        }
    }

    private static String told(Method method) {
        StringBuilder b = new StringBuilder(method.getReturnType().getName()).append(' ');
        b.append(method.getName()).append('(');
        Class<?>[] types = method.getParameterTypes();
        for (int i = 0; i < types.length; i++) {
            b.append(i == 0 ? "" : ",").append(types[i].getName());
        }
        return b.append(')').toString();
    }

    private static void face() {
        List<String> found = new ArrayList<>();
        List<String> names = new ArrayList<>();
        Method[] methods = ItWasLikeThat.class.getDeclaredMethods();
        for (Method method : methods) {
            if (!Modifier.isPrivate(method.getModifiers())) {
                found.add(told(method));
                names.add(method.getName());
                Due.due("public: " + method, Modifier.isPublic(method.getModifiers()) ? 1 : 0, 1);
            }
        }
        for (Method method : methods) {
            if (Modifier.isPrivate(method.getModifiers())) {
                Due.due("private, named as a public one: " + method, names.contains(method.getName()) ? 1 : 0, 0);
            }
        }
        for (String one : FACE) {
            Due.due(one, found.contains(one) ? 1 : 0, 1);
        }
        Due.due("methods of the face", found.size(), FACE.length);
        int modifiers = ItWasLikeThat.class.getModifiers();
        Due.due("public and final", Modifier.isPublic(modifiers) && Modifier.isFinal(modifiers) ? 1 : 0, 1);
        Due.due("constructors", ItWasLikeThat.class.getDeclaredConstructors().length, 1);
        Due.due("public constructors", ItWasLikeThat.class.getConstructors().length, 1);
    }

    private static void insides() {
        Class<?>[] inside = ItWasLikeThat.class.getDeclaredClasses();
        Due.due("at most twelve classes", inside.length + 1 <= 12 ? 1 : 0, 1);
        fields(ItWasLikeThat.class);
        for (Field field : ItWasLikeThat.class.getDeclaredFields()) {
            Due.due("private: " + field, Modifier.isPrivate(field.getModifiers()) ? 1 : 0, 1);
        }
        for (Class<?> one : inside) {
            Due.due("static: " + one, Modifier.isStatic(one.getModifiers()) ? 1 : 0, 1);
            Due.due("no class deeper inside: " + one, one.getDeclaredClasses().length, 0);
            fields(one);
            for (Method method : one.getDeclaredMethods()) {
                Due.due("seven parameters: " + method, method.getParameterCount() <= 7 ? 1 : 0, 1);
            }
        }
    }

    private static void fields(Class<?> of) {
        int own = 0;
        for (Field field : of.getDeclaredFields()) {
            boolean isStatic = Modifier.isStatic(field.getModifiers());
            own += isStatic ? 0 : 1;
            Due.due("static and final: " + field, !isStatic || Modifier.isFinal(field.getModifiers()) ? 1 : 0, 1);
        }
        Due.due("at most twenty fields: " + of, own <= 20 ? 1 : 0, 1);
    }
}
