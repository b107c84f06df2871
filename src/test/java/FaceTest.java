import java.lang.reflect.Constructor;
import java.lang.reflect.Field;
import java.lang.reflect.Method;
import java.lang.reflect.Modifier;
import java.nio.file.Files;
import java.nio.file.Path;
import java.util.Set;
import java.util.TreeSet;
import java.util.regex.Matcher;
import java.util.regex.Pattern;

/** The public face of the document, and rules of LANGUAGE.md that can be seen in the file. */
public final class FaceTest {
    private static final String[] FACE = {
        "int thing(int,int)", "int tag(int,int)", "int of(int,int)", "int next()",
        "int slip(int,int,int,int,int,int,int)", "int paper(int,int)", "boolean back(int)", "int look(int)",
        "int van(int)", "int house(int)", "int feed(int,int,int,int,int)", "boolean end(int)", "int rule()",
        "int fault(int)", "int pay(int,int,int)", "int statement(int,int,int)", "int count(int,int)",
        "boolean level(int,int,int)", "int best(int,int,int,int)",
    };
    private static final String[] RULED_OUT = {
        "\\bthrows?\\b", "\\btry\\b", "\\bcatch\\b", "\\bsynchronized\\b", "\\bassert\\b", "->", "::", "\\w+Exact\\b",
        "\\bpackage\\b", "\\bimport\\s+static\\b", "\\bSystem\\.(?!arraycopy)", "\\bvar\\b", "\\bThread\\b",
    };

    private FaceTest() {
    }

    public static void main(String[] args) throws Exception {
        methods();
        otherMembers();
        source();
        Check.finish();
    }

    private static void methods() {
        Set<String> due = Set.of(FACE);
        Set<String> found = new TreeSet<>();
        for (Method method : GreatStore.class.getDeclaredMethods()) {
            if (!Modifier.isPrivate(method.getModifiers())) {
                found.add(told(method));
            }
        }
        Check.due("methods " + found + " for " + due, found.equals(due), true);
        ownRules(GreatStore.class);
        for (Class<?> one : GreatStore.class.getDeclaredClasses()) {
            ownRules(one);
        }
    }

    /** LANGUAGE.md, 1 and 11, of one class: the names of private methods, the parameters and the fields. */
    private static void ownRules(Class<?> one) {
        Set<String> names = new TreeSet<>();
        for (String method : FACE) {
            names.add(method.substring(method.indexOf(' ') + 1, method.indexOf('(')));
        }
        for (Method method : one.getDeclaredMethods()) {
            String told = one.getName() + "." + method.getName();
            boolean hidden = Modifier.isPrivate(method.getModifiers());
            Check.due(told + " is private with a public name", hidden && names.contains(method.getName()), false);
            Check.due(told + ": at most seven", method.getParameterCount() <= 7, true);
        }
        int fields = 0;
        for (Field field : one.getDeclaredFields()) {
            fields += Modifier.isStatic(field.getModifiers()) ? 0 : 1;
            Check.due(one.getName() + "." + field.getName() + " is static, but not final",
                (field.getModifiers() & (Modifier.STATIC | Modifier.FINAL)) == Modifier.STATIC, false);
        }
        Check.due(one.getName() + ": some twenty fields", fields <= 20, true);
    }

    private static String told(Method method) {
        StringBuilder told = new StringBuilder(method.getReturnType().getName() + " " + method.getName() + "(");
        for (int i = 0; i < method.getParameterCount(); i++) {
            told.append(i > 0 ? "," : "").append(method.getParameterTypes()[i].getName());
        }
        boolean plain = Modifier.isPublic(method.getModifiers()) && !Modifier.isStatic(method.getModifiers());
        return told.append(plain ? ")" : ") not public").toString();
    }

    private static void otherMembers() throws Exception {
        int mods = GreatStore.class.getModifiers();
        Check.due("public final", Modifier.isPublic(mods) && Modifier.isFinal(mods), true);
        Constructor<?>[] makers = GreatStore.class.getDeclaredConstructors();
        Check.due("one constructor", makers.length, 1);
        Check.due("without parameters", makers[0].getParameterCount(), 0);
        for (Field field : GreatStore.class.getDeclaredFields()) {
            boolean shown = !Modifier.isPrivate(field.getModifiers());
            Check.due("field " + field.getName(), shown, field.getName().equals("NONE"));
        }
        Field none = GreatStore.class.getField("NONE");
        Check.due("NONE is an int constant", none.getType() == int.class && Modifier.isFinal(none.getModifiers()), true);
        Class<?>[] inside = GreatStore.class.getDeclaredClasses();
        Check.due("at most some twelve classes", inside.length < 12, true);
        for (Class<?> one : inside) {
            int m = one.getModifiers();
            Check.due(one.getName(), Modifier.isStatic(m) && !Modifier.isPublic(m) && !Modifier.isProtected(m), true);
        }
    }

    private static void source() throws Exception {
        String text = Files.readString(Path.of("src/main/java/GreatStore.java"));
        String code = text.replaceAll("(?s)/\\*.*?\\*/", "").replaceAll("//[^\\n]*", "")
            .replaceAll("\"[^\"\\n]*\"", "\"\"").replaceAll("'[^'\\n]*'", "' '");
        for (String word : RULED_OUT) {
            Matcher found = Pattern.compile(word).matcher(code);
            Check.due("ruled out: " + word, found.find(), false);
        }
        Matcher imports = Pattern.compile("import\\s+([\\w.*]+)").matcher(code);
        while (imports.find()) {
            Check.due("import " + imports.group(1), imports.group(1).equals("java.util.ArrayList"), true);
        }
        for (int i = 0; i < text.length(); i++) {
            Check.due("a character beyond 255", text.charAt(i) > 255, false);
        }
    }
}
