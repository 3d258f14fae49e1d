import java.lang.reflect.Constructor;
import java.lang.reflect.Field;
import java.lang.reflect.Method;
import java.lang.reflect.Modifier;
import java.nio.file.Files;
import java.nio.file.Path;
import java.util.List;
import java.util.Set;
import java.util.TreeSet;
import java.util.regex.Matcher;
import java.util.regex.Pattern;

/** The class shows the document's face and nothing else, and its source keeps to what LANGUAGE.md forbids by word. */
public final class FaceTest {
    private static int wrong;

    public static void main(String[] args) throws Exception {
        String document = Files.readString(Path.of("../shared/DOC.md"));
        methods(document);
        members();
        source(Files.readString(Path.of("src/main/java/PuppetHeirs.java")));
        System.out.println(wrong == 0 ? "the face is as told" : wrong + " faults");
        if (wrong != 0) System.exit(1);
    }

    private static void fail(String why) {
        wrong++;
        System.out.println(why);
    }

    private static void methods(String document) {
        Set<String> want = new TreeSet<>();
        Matcher m = Pattern.compile("^    public (int|boolean) (\\w+)\\(([^)]*)\\)( throws [\\w, ]+)?;", Pattern.MULTILINE).matcher(document);
        while (m.find()) {
            int args = m.group(3).isEmpty() ? 0 : m.group(3).split(",").length;
            String thrown = m.group(4) == null ? "" : m.group(4).substring(8);
            want.add(m.group(1) + " " + m.group(2) + " " + args + " " + thrown);
        }
        Set<String> got = new TreeSet<>();
        for (Method k : PuppetHeirs.class.getDeclaredMethods()) {
            if (!Modifier.isPublic(k.getModifiers())) continue;
            StringBuilder thrown = new StringBuilder();
            for (Class<?> e : k.getExceptionTypes()) thrown.append(thrown.length() == 0 ? "" : ", ").append(e.getSimpleName());
            got.add(k.getReturnType() + " " + k.getName() + " " + k.getParameterCount() + " " + thrown);
            for (Class<?> t : k.getParameterTypes()) if (t != int.class) fail("a parameter of " + k);
        }
        if (want.size() != 55 || !want.equals(got)) fail("methods: " + want + " against " + got);
    }

    private static void members() throws Exception {
        Class<?> c = PuppetHeirs.class;
        if (!Modifier.isPublic(c.getModifiers()) || !Modifier.isFinal(c.getModifiers())) fail("public and final");
        Constructor<?>[] made = c.getDeclaredConstructors();
        if (made.length != 1 || !Modifier.isPublic(made[0].getModifiers()) || made[0].getParameterCount() != 0) fail("constructor");
        Set<String> face = new TreeSet<>();
        for (Method m : c.getDeclaredMethods()) if (Modifier.isPublic(m.getModifiers())) face.add(m.getName());
        for (Method m : c.getDeclaredMethods()) {
            if (m.isSynthetic()) fail("made by the compiler: " + m);
            if (Modifier.isPublic(m.getModifiers())) continue;
            if (!Modifier.isPrivate(m.getModifiers())) fail("not private: " + m);
            if (face.contains(m.getName())) fail("bears a public name: " + m);
        }
        for (Field f : c.getDeclaredFields()) {
            boolean constant = f.getName().equals("NONE");
            if (constant != Modifier.isPublic(f.getModifiers()) || !constant && !Modifier.isPrivate(f.getModifiers())) fail("field " + f);
        }
        if (PuppetHeirs.NONE != -1) fail("NONE");
        if (c.getDeclaredClasses().length > 12) fail("too many classes");
        for (Class<?> k : c.getDeclaredClasses()) {
            if (!Modifier.isStatic(k.getModifiers()) || Modifier.isPublic(k.getModifiers())) fail("class " + k);
            int fields = 0;
            for (Field f : k.getDeclaredFields()) fields += Modifier.isStatic(f.getModifiers()) ? 0 : 1;
            if (fields > 20) fail("fields of " + k);
            for (Method m : k.getDeclaredMethods()) if (face.contains(m.getName())) fail("bears a public name: " + m);
        }
    }

    private static void source(String text) {
        for (String word : List.of("->", "::", "synchronized", "assert", "finally", "try", "catch", "instanceof", "static {",
            "Random", "System", "Thread", "Exact", "float", "toString", "equals", "hashCode", "protected", "package ")) {
            if (text.contains(word)) fail("the source has " + word);
        }
        if (!text.chars().allMatch(k -> k == '\n' || k >= 32 && k < 127)) fail("a sign that is none of ASCII");
        Matcher imports = Pattern.compile("^import (.*);", Pattern.MULTILINE).matcher(text);
        while (imports.find()) if (!imports.group(1).equals("java.util.NoSuchElementException")) fail(imports.group());
        Matcher thrown = Pattern.compile("throw new (\\w+)").matcher(text);
        while (thrown.find()) {
            if (!Set.of("IllegalArgumentException", "NoSuchElementException").contains(thrown.group(1))) fail(thrown.group());
        }
        longMethods(text);
    }

    private static void longMethods(String text) {
        int begun = -1;
        String[] lines = text.split("\n");
        for (int i = 0; i < lines.length; i++) {
            if (lines[i].matches(" {4,8}[a-z][^=;]*\\(.*\\{") && !lines[i].contains("class ")) begun = i;
            if (lines[i].matches(" {4,8}\\}") && begun >= 0) {
                if (i - begun > 60) fail("a long method: " + lines[begun]);
                begun = -1;
            }
        }
    }
}
