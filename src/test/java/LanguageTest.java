import java.io.IOException;
import java.lang.reflect.Constructor;
import java.lang.reflect.Field;
import java.lang.reflect.Method;
import java.lang.reflect.Modifier;
import java.nio.file.Files;
import java.nio.file.Path;
import java.util.ArrayList;
import java.util.List;
import java.util.Set;
import java.util.TreeSet;
import java.util.regex.Matcher;
import java.util.regex.Pattern;

/** The rules of LANGUAGE.md that can be told from the source's words and from the compiled class. */
public final class LanguageTest {
    private static final String SOURCE = "src/main/java/ReachLabels.java";
    private static final String[] FACE = {
        "int type(int)", "int clear()", "int graph()", "int node(int,int)", "int edge(int,int)", "int now(int)",
        "int adds(int,int)", "int cuts(int,int)", "int ranks()", "int undo()", "int comes(int,int)", "int hub(int,int)",
        "int way(int,int,int)", "int on(int,int,int)", "int loss(int,int,int)", "int gain(int,int)", "int best(int)",
        "int odds(int,int,int,int)", "int sees(int,int,int)", "int forget()", "int unseen(int)", "int next()",
        "int keep(int)", "int back(int)", "int count(int)"};
    private static final String[] BANNED = {
        "\\b(throw|throws|try|catch|finally|synchronized|assert|package|import|native|volatile|transient)\\b",
        "->", "::", "\\w+Exact\\b", "\\b(Object|Thread|Random|Exception|Error|Throwable|Optional|Stream)\\b",
        "\\bSystem\\.(?!arraycopy\\b)", "\\bjava\\.", "\\bvar\\b", "\\b(equals|hashCode|toString)\\s*\\(", "\\bstatic\\s*\\{",
        "while\\s*\\(\\s*true", "for\\s*\\(\\s*;\\s*;"};

    private static int wrong = 0;

    public static void main(String[] args) throws IOException {
        String source = Files.readString(Path.of(SOURCE));
        String code = withoutComments(source);
        for (String banned : BANNED) {
            Matcher m = Pattern.compile(banned).matcher(code);
            if (m.find()) say("the source has " + m.group());
        }
        for (int i = 0; i < source.length(); i++) if (source.charAt(i) > 127) say("a letter beyond 127 at " + i);
        longMethods(source);
        face();
        List<Class<?>> classes = new ArrayList<>(List.of(ReachLabels.class.getDeclaredClasses()));
        classes.add(ReachLabels.class);
        if (classes.size() > 12) say(classes.size() + " classes");
        for (Class<?> c : classes) lookAt(c);
        System.out.println(wrong == 0 ? "nothing is outside the language" : wrong + " things are outside the language");
        System.exit(wrong == 0 ? 0 : 1);
    }

    private static void say(String what) {
        wrong++;
        System.out.println(what);
    }

    private static String withoutComments(String source) {
        return source.replaceAll("(?s)/\\*.*?\\*/", " ").replaceAll("//[^\n]*", " ").replaceAll("\"[^\"\n]*\"", "\"\"");
    }

    private static void longMethods(String source) {
        int opened = -1;
        String[] lines = source.split("\n");
        for (int i = 0; i < lines.length; i++) {
            boolean opens = lines[i].matches("( {4}| {8})[A-Za-z].*\\) \\{") && !lines[i].contains("class");
            if (opens) opened = i;
            if (lines[i].matches("( {4}| {8})\\}") && opened >= 0) {
                if (i - opened > 60) say("a method of " + (i - opened) + " lines at " + (opened + 1));
                opened = -1;
            }
        }
    }

    private static void face() {
        Set<String> want = new TreeSet<>(List.of(FACE));
        Set<String> got = new TreeSet<>();
        Set<String> names = new TreeSet<>();
        for (Method m : ReachLabels.class.getDeclaredMethods()) {
            if (!Modifier.isPrivate(m.getModifiers())) {
                got.add(told(m));
                names.add(m.getName());
                if (!Modifier.isPublic(m.getModifiers())) say("not public: " + m);
            }
        }
        if (!got.equals(want)) say("the face is " + got);
        for (Method m : ReachLabels.class.getDeclaredMethods()) {
            if (Modifier.isPrivate(m.getModifiers()) && names.contains(m.getName())) say("a name of the face: " + m);
        }
        Set<String> constants = new TreeSet<>();
        for (Field f : ReachLabels.class.getDeclaredFields()) {
            if (!Modifier.isPrivate(f.getModifiers())) constants.add(f.getName());
        }
        if (!constants.equals(new TreeSet<>(List.of("BAD", "STATE", "FULL", "NONE")))) say("constants " + constants);
        Constructor<?>[] made = ReachLabels.class.getDeclaredConstructors();
        if (made.length != 1 || !Modifier.isPublic(made[0].getModifiers()) || made[0].getParameterCount() != 0) {
            say("constructors");
        }
        int modifiers = ReachLabels.class.getModifiers();
        if (!Modifier.isPublic(modifiers) || !Modifier.isFinal(modifiers)) say("the class is not public and final");
    }

    private static String told(Method m) {
        StringBuilder text = new StringBuilder(m.getReturnType() + " " + m.getName() + "(");
        for (int i = 0; i < m.getParameterCount(); i++) text.append(i > 0 ? "," : "").append(m.getParameterTypes()[i]);
        return text.append(")").toString();
    }

    private static void lookAt(Class<?> c) {
        boolean inside = c != ReachLabels.class;
        if (inside && !Modifier.isStatic(c.getModifiers())) say("not static: " + c);
        if (inside && (Modifier.isPublic(c.getModifiers()) || Modifier.isProtected(c.getModifiers()))) say("open: " + c);
        int fields = 0;
        for (Field f : c.getDeclaredFields()) {
            boolean isStatic = Modifier.isStatic(f.getModifiers());
            fields += isStatic ? 0 : 1;
            if (isStatic && !Modifier.isFinal(f.getModifiers())) say("static, not final: " + f);
        }
        if (fields > 20) say(fields + " fields in " + c);
        for (Method m : c.getDeclaredMethods()) if (m.getParameterCount() > 7) say("too many parameters: " + m);
    }
}
