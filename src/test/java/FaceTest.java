import java.lang.reflect.Constructor;
import java.lang.reflect.Field;
import java.lang.reflect.Method;
import java.lang.reflect.Modifier;
import java.nio.file.Files;
import java.nio.file.Path;
import java.util.ArrayList;
import java.util.Arrays;
import java.util.HashSet;
import java.util.List;
import java.util.Set;
import java.util.TreeSet;
import java.util.regex.Matcher;
import java.util.regex.Pattern;

/** The public face of the document, and what of LANGUAGE.md can be seen from the class and its text. */
public final class FaceTest {
    private static final String FACE = "animal(int,int,int,int) animalOf(int,int) change(int,int,int) paint(int,int) level(int) turn(int) slip(int,int)"
        + " feed(long,int) rules() height(int,int) high(int) clash(int) nextClash(int) quiet(int,int) rings(int,int,int) firstRing(int,int)"
        + " mostRings(int,int) levelFor(int,int) phases(int) tune(int) tuneAll() organ(int,int,int) together(int,int) slipped(int,int)"
        + " child(int,int) childOf(int,int) coins(int,int) seats() seat(int) ride() away() photo(int,int,int) burn() fits(int) liar(int)"
        + " prove(int,int,int) row(int,int) alterRow(int,int,int) judge(int) sheet(int,int,int) write(int,int,int) item(int,int,int)"
        + " sets(int,int,int) shelf(int,int,int) taken(int,int) act(int,int,int) trace(int) many(int) keep() again()";
    private static final String FORBIDDEN = "throw try catch finally synchronized assert record sealed var float double import\\s+(?!java\\.util\\.Arrays;)\\S+"
        + " @\\w+ -> :: package protected volatile transient native strictfp hashCode toString getClass System\\.(?!arraycopy)\\w+ Exact\\b \\.equals";
    private static final Set<String> LIBRARY = Set.of("System.arraycopy", "Arrays.copyOf", "Arrays.copyOfRange", "Arrays.fill", "Math.abs", "Math.max", "Math.min",
        "Math.floorDiv", "Math.floorMod", "Integer.bitCount", "Long.bitCount");
    private static int wrong = 0;

    private static void must(boolean holds, String what) {
        if (!holds) {
            wrong++;
            System.out.println("not so: " + what);
        }
    }

    private static void lookAtFace() {
        Class<?> c = RoundAndUp.class;
        must(Modifier.isPublic(c.getModifiers()) && Modifier.isFinal(c.getModifiers()), "RoundAndUp is public and final");
        must(c.getConstructors().length == 1 && c.getDeclaredConstructors().length == 1, "one constructor, public");
        Set<String> face = new TreeSet<>();
        Set<String> publicNames = new HashSet<>();
        for (Method m : c.getDeclaredMethods()) {
            if (Modifier.isPrivate(m.getModifiers())) {
                continue;
            }
            must(m.getReturnType() == int.class && Modifier.isPublic(m.getModifiers()) && !Modifier.isStatic(m.getModifiers()), m + " is public int");
            List<String> types = new ArrayList<>();
            for (Class<?> p : m.getParameterTypes()) {
                types.add(p.getName());
            }
            face.add(m.getName() + "(" + String.join(",", types) + ")");
            publicNames.add(m.getName());
        }
        must(face.equals(new TreeSet<>(Arrays.asList(FACE.split(" ")))), "the face is that of the document: " + face);
        Set<String> constants = new TreeSet<>();
        for (Field f : c.getDeclaredFields()) {
            if (!Modifier.isPrivate(f.getModifiers())) {
                constants.add(f.getName());
            }
            must(!Modifier.isStatic(f.getModifiers()) || Modifier.isFinal(f.getModifiers()), f + " is no static state");
        }
        must(constants.equals(Set.of("BAD", "FULL", "NONE", "STATE")), "the constants are those of the document: " + constants);
        must(RoundAndUp.BAD == -1 && RoundAndUp.FULL == -2 && RoundAndUp.NONE == -3 && RoundAndUp.STATE == -4, "their numbers");
        lookAtInside(c, publicNames);
    }

    private static void lookAtInside(Class<?> c, Set<String> publicNames) {
        must(c.getDeclaredClasses().length <= 12, "some twelve classes");
        List<Class<?>> all = new ArrayList<>(Arrays.asList(c.getDeclaredClasses()));
        all.add(c);
        for (Class<?> inside : all) {
            must(inside == c || Modifier.isStatic(inside.getModifiers()) && !Modifier.isPublic(inside.getModifiers()), inside + " is static and not public");
            int fields = 0;
            for (Field f : inside.getDeclaredFields()) {
                fields += Modifier.isStatic(f.getModifiers()) ? 0 : 1;
                must(!Modifier.isStatic(f.getModifiers()) || Modifier.isFinal(f.getModifiers()) && !f.getType().isArray(), f + " is a constant");
            }
            must(fields <= 20, inside + " has some twenty fields");
            for (Method m : inside.getDeclaredMethods()) {
                must(m.getParameterCount() <= 7, m + " takes at most seven");
                must(inside == c && !Modifier.isPrivate(m.getModifiers()) || !publicNames.contains(m.getName()), m + " bears no public name");
            }
            for (Constructor<?> k : inside.getDeclaredConstructors()) {
                must(inside == c || !Modifier.isPublic(k.getModifiers()), k + " is not public");
            }
        }
    }

    private static void lookAtText(String text) {
        for (int k = 0; k < text.length(); k++) {
            must(text.charAt(k) < 127, "signs are below 127, at " + k);
        }
        String code = text.replaceAll("(?s)/\\*.*?\\*/", " ").replaceAll("//[^\n]*", " ").replaceAll("\"[^\"\n]*\"", "\"\"");
        for (String word : FORBIDDEN.split(" ")) {
            String pattern = Character.isLetter(word.charAt(0)) && Character.isLetter(word.charAt(word.length() - 1)) ? "\\b" + word + "\\b" : word;
            Matcher m = Pattern.compile(pattern).matcher(code);
            must(!m.find(), "nothing like " + word);
        }
        must(!code.contains("static {"), "no static block");
        Matcher called = Pattern.compile("\\b(?:System|Arrays|Math|Integer|Long|String|Character|Short|Byte|Boolean|Objects|Collections|List|Runtime|Thread)\\.\\w+").matcher(code);
        while (called.find()) {
            must(LIBRARY.contains(called.group()), called.group() + " stands in LANGUAGE.md, rule 4");
        }
    }

    public static void main(String[] args) throws Exception {
        lookAtFace();
        lookAtText(Files.readString(Path.of("src/main/java/RoundAndUp.java")));
        System.out.println(wrong == 0 ? "the face and the text are as they must be" : wrong + " things are not as they must be");
        if (wrong != 0) {
            System.exit(1);
        }
    }
}
