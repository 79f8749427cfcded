import java.lang.reflect.Constructor;
import java.lang.reflect.Field;
import java.lang.reflect.Method;
import java.lang.reflect.Modifier;
import java.nio.file.Files;
import java.nio.file.Path;
import java.util.List;
import java.util.NoSuchElementException;
import java.util.Set;
import java.util.TreeSet;
import java.util.regex.Matcher;
import java.util.regex.Pattern;

/** Rules of LANGUAGE.md that can be seen from the class file's face or the program's text. */
public final class LanguageTest {
    private static final String FACE = "ages(int,int,int)int ask()int best()int chance(int,int,int)int count(int)int "
            + "feed(long,long,long)int feel(int,boolean)boolean feet(int)int fits(int,int)boolean fitted(int)int graft(int,int)int "
            + "idle()int judged(int)int lack(int)int later(int,int)int mark(int,boolean)boolean mends(int)int morning()int "
            + "orchard()int order(int)int pairs()int person(int,int)int prune(int)int rests(int,int,int,int)int roads(int)int "
            + "share(int,int)boolean shoes(int)int sole()int tree(int,int)int tryOn(int,int)int twins()int undo()boolean "
            + "wearers(int)int when(int)int year()int";

    public static void main(String[] args) throws Exception {
        face();
        String text = Files.readString(Path.of("src/main/java/ShoeOrchard.java"));
        String code = text.replaceAll("(?s)/\\*.*?\\*/", "").replaceAll("//[^\n]*", "")
                .replaceAll("\"[^\"\n]*\"", "\"\"").replaceAll("'\\\\?.'", "' '");
        nothingForbidden(code);
        methods(code);
        Check.end();
    }

    private static void face() throws ReflectiveOperationException {
        Class<?> program = ShoeOrchard.class;
        Set<String> faces = new TreeSet<>();
        Set<String> names = new TreeSet<>();
        for (Method method : program.getDeclaredMethods()) {
            if (Modifier.isPublic(method.getModifiers())) {
                String all = method.toString();
                faces.add(method.getName() + all.substring(all.indexOf('(')).replaceAll(" .*", "") + method.getReturnType());
                names.add(method.getName());
            }
        }
        Check.due("the face is " + faces, String.join(" ", faces).equals(FACE), true);
        Check.due("public and final", program.getModifiers(), Modifier.PUBLIC | Modifier.FINAL);
        for (Method method : program.getDeclaredMethods()) {
            boolean hidden = Modifier.isPrivate(method.getModifiers());
            Check.due(method + " is public or private", hidden || Modifier.isPublic(method.getModifiers()), true);
            Check.due(method + " has a name of its own", hidden && names.contains(method.getName()), false);
        }
        for (Method method : program.getDeclaredMethods()) {
            boolean says = List.of(method.getExceptionTypes()).equals(List.of(NoSuchElementException.class));
            Check.due(method + " says what it throws", says, method.getName().equals("rests"));
        }
        for (Field field : program.getDeclaredFields()) {
            boolean constant = Modifier.isFinal(field.getModifiers()) || !Modifier.isStatic(field.getModifiers());
            Check.due(field + " is no static state", constant, true);
            Check.due(field + " is hidden", Modifier.isPrivate(field.getModifiers()), !field.getName().equals("NONE"));
        }
        Field none = program.getDeclaredField("NONE");
        Check.due("NONE is a public constant", none.getModifiers(), Modifier.PUBLIC | Modifier.STATIC | Modifier.FINAL);
        Check.due("NONE", none.getInt(null), -1);
        for (Constructor<?> constructor : program.getDeclaredConstructors()) {
            Check.due(constructor + " is the one told", constructor.getParameterCount(), 0);
        }
        Check.due("some twelve classes", program.getDeclaredClasses().length <= 12, true);
        for (Class<?> inner : program.getDeclaredClasses()) {
            innerClass(inner, names);
        }
    }

    private static void innerClass(Class<?> inner, Set<String> names) {
        Check.due(inner + " is private and static", inner.getModifiers() & (Modifier.PRIVATE | Modifier.STATIC),
                Modifier.PRIVATE | Modifier.STATIC);
        int fields = 0;
        for (Field field : inner.getDeclaredFields()) {
            boolean isStatic = Modifier.isStatic(field.getModifiers());
            fields += isStatic ? 0 : 1;
            Check.due(field + " static and not final", isStatic && !Modifier.isFinal(field.getModifiers()), false);
        }
        Check.due(inner + " has some twenty fields", fields <= 20, true);
        for (Method method : inner.getDeclaredMethods()) {
            Check.due(method + " has a name of its own", names.contains(method.getName()), false);
        }
    }

    private static void nothingForbidden(String code) {
        for (String word : ("-> :: \\bcatch\\b \\btry\\b \\bfinally\\b \\bsynchronized\\b \\bassert\\b \\bSystem\\.(?!arraycopy) "
                + "\\bnew\\s+String\\b Exact\\b \\bhashCode\\b \\btoString\\b \\bvar\\b \\bpackage\\b \\bdouble\\b \\bfloat\\b "
                + "\\bprotected\\b \\bvolatile\\b \\btransient\\b \\bnative\\b \\byield\\b").split(" ")) {
            Check.due("the program holds " + word, Pattern.compile(word).matcher(code).find(), false);
        }
        Matcher imports = Pattern.compile("import ([^;]*);").matcher(code);
        while (imports.find()) {
            boolean known = Set.of("java.util.Arrays", "java.util.NoSuchElementException").contains(imports.group(1));
            Check.due("import of " + imports.group(1), known, true);
        }
        Matcher thrown = Pattern.compile("\\bthrow\\b(?! new NoSuchElementException\\(\"\"\\);)").matcher(code);
        Check.due("another throw", thrown.find(), false);
    }

    /** Methods of at most sixty lines and seven parameters. */
    private static void methods(String code) {
        Matcher heads = Pattern.compile("(?m)^( +)(?:public |private |static )*(?:[a-z]+|State|String)(?:\\[\\])? \\w+\\(([^)]*)\\)[^;{]*\\{$")
                .matcher(code);
        int found = 0;
        while (heads.find()) {
            found++;
            int end = code.indexOf("\n" + heads.group(1) + "}", heads.end());
            String body = code.substring(heads.start(), Math.max(heads.end(), end));
            Check.due(heads.group().trim() + " is short", body.split("\n").length <= 60, true);
            Check.due(heads.group().trim() + " takes few", heads.group(2).split(",").length <= 7, true);
        }
        Check.due("methods were found", found > 100, true);
    }
}
