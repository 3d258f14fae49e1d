import java.lang.reflect.Constructor;
import java.lang.reflect.Field;
import java.lang.reflect.Method;
import java.lang.reflect.Modifier;
import java.nio.file.Files;
import java.nio.file.Path;
import java.util.Set;
import java.util.TreeSet;
import java.util.regex.Matcher;
import java.util.regex.Pattern;

/** The class shows the document's face and nothing else. */
public final class FaceTest {
    private static int wrong;

    public static void main(String[] args) throws Exception {
        String document = Files.readString(Path.of("../shared/DOC.md"));
        methods(document);
        members();
        System.out.println(wrong == 0 ? "the face is as told" : wrong + " faults");
        if (wrong != 0) System.exit(1);
    }

    private static void fail(String why) {
        wrong++;
        System.out.println(why);
    }

    private static void methods(String document) {
        Set<String> want = new TreeSet<>();
        Matcher m = Pattern.compile("^    public (int|boolean) (\\w+)\\(([^)]*)\\)( throws [\\w, ]+)?;", Pattern.MULTILINE).matcher(document);
        while (m.find()) {
            int args = m.group(3).isEmpty() ? 0 : m.group(3).split(",").length;
            String thrown = m.group(4) == null ? "" : m.group(4).substring(8);
            want.add(m.group(1) + " " + m.group(2) + " " + args + " " + thrown);
        }
        Set<String> got = new TreeSet<>();
        for (Method k : PuppetHeirs.class.getDeclaredMethods()) {
            if (!Modifier.isPublic(k.getModifiers())) continue;
            StringBuilder thrown = new StringBuilder();
            for (Class<?> e : k.getExceptionTypes()) thrown.append(thrown.length() == 0 ? "" : ", ").append(e.getSimpleName());
            got.add(k.getReturnType() + " " + k.getName() + " " + k.getParameterCount() + " " + thrown);
            for (Class<?> t : k.getParameterTypes()) if (t != int.class) fail("a parameter of " + k);
        }
        if (want.size() != 55 || !want.equals(got)) fail("methods: " + want + " against " + got);
    }

    private static void members() throws Exception {
        Class<?> c = PuppetHeirs.class;
        if (!Modifier.isPublic(c.getModifiers()) || !Modifier.isFinal(c.getModifiers())) fail("public and final");
        Constructor<?>[] made = c.getDeclaredConstructors();
        if (made.length != 1 || !Modifier.isPublic(made[0].getModifiers()) || made[0].getParameterCount() != 0) fail("constructor");
        Set<String> face = new TreeSet<>();
        for (Method m : c.getDeclaredMethods()) if (Modifier.isPublic(m.getModifiers())) face.add(m.getName());
        for (Method m : c.getDeclaredMethods()) {
            if (m.isSynthetic()) fail("made by the compiler: " + m);
            if (Modifier.isPublic(m.getModifiers())) continue;
            if (!Modifier.isPrivate(m.getModifiers())) fail("not private: " + m);
            if (face.contains(m.getName())) fail("bears a public name: " + m);
        }
        for (Field f : c.getDeclaredFields()) {
            boolean constant = f.getName().equals("NONE");
            if (constant != Modifier.isPublic(f.getModifiers()) || !constant && !Modifier.isPrivate(f.getModifiers())) fail("field " + f);
        }
        if (PuppetHeirs.NONE != -1) fail("NONE");
        for (Class<?> k : c.getDeclaredClasses()) {
            if (!Modifier.isStatic(k.getModifiers()) || Modifier.isPublic(k.getModifiers())) fail("class " + k);
            for (Method m : k.getDeclaredMethods()) if (face.contains(m.getName())) fail("bears a public name: " + m);
        }
    }
}
