import java.lang.reflect.Constructor;
import java.lang.reflect.Field;
import java.lang.reflect.Method;
import java.lang.reflect.Modifier;
import java.nio.charset.StandardCharsets;
import java.nio.file.Files;
import java.nio.file.Path;
import java.util.TreeSet;
import java.util.regex.Matcher;
import java.util.regex.Pattern;

/** The face is the document's and no more; the source keeps to what of LANGUAGE.md can be seen by its words. */
public final class FaceTest {
    private static final String FACE = "feed/5 end/1 election/0 rule/0 force/1 station/2 paper/2 row/3 runs/3 moved/2 "
            + "told/2 hour/0 move/3 lend/3 spoil/1 find/1 send/3 tell/3 recount/1 undo/0 way/2 balance/1 slips/1 "
            + "must/0 free/0 leaves/1 ahead/3 dry/1 served/0 more/3 crowds/2 rests/4 pence/2 note/3 ruled/1 look/2 "
            + "seed/1 crowded/4 count/1 image/1 back/1";
    private static int wrong = 0;

    private static void need(boolean right, String what) {
        if (!right) {
            wrong++;
            System.out.println(what);
        }
    }

    public static void main(String[] args) throws Exception {
        TreeSet<String> face = new TreeSet<>(java.util.List.of(FACE.split(" ")));
        TreeSet<String> names = new TreeSet<>();
        need(face.size() == 41, "the face has 41 methods");
        face.forEach(f -> names.add(f.substring(0, f.indexOf('/'))));
        look(BallotBook.class, face, names);
        source(Files.readString(Path.of(args[0]), StandardCharsets.ISO_8859_1));
        System.out.println(wrong == 0 ? "the face is as due" : wrong + " things are not as due");
        if (wrong != 0) {
            System.exit(1);
        }
    }

    private static void look(Class<?> book, TreeSet<String> face, TreeSet<String> names) {
        int all = book.getModifiers();
        need(Modifier.isPublic(all) && Modifier.isFinal(all), "the class is public and final");
        TreeSet<String> seen = new TreeSet<>();
        for (Method m : book.getDeclaredMethods()) {
            if (Modifier.isPrivate(m.getModifiers())) {
                need(!names.contains(m.getName()), "a private method bears a name of the face: " + m);
                continue;
            }
            need(Modifier.isPublic(m.getModifiers()) && m.getReturnType() == int.class
                    && !Modifier.isStatic(m.getModifiers()), "not of the face: " + m);
            for (Class<?> type : m.getParameterTypes()) {
                need(type == int.class, "not of the face: " + m);
            }
            seen.add(m.getName() + "/" + m.getParameterCount());
        }
        need(seen.equals(face), "the face is " + seen);
        for (Field f : book.getDeclaredFields()) {
            need(Modifier.isPrivate(f.getModifiers()) || f.getName().equals("NONE"), "visible: " + f);
        }
        for (Constructor<?> c : book.getDeclaredConstructors()) {
            need(Modifier.isPublic(c.getModifiers()) && c.getParameterCount() == 0, "not of the face: " + c);
        }
        for (Class<?> inside : book.getDeclaredClasses()) {
            need(Modifier.isStatic(inside.getModifiers()), "not static: " + inside);
            need(!Modifier.isPublic(inside.getModifiers()), "visible: " + inside);
            for (Method m : inside.getDeclaredMethods()) {
                need(!names.contains(m.getName()), "bears a name of the face: " + m);
                need(m.getParameterCount() <= 7, "more than seven parameters: " + m);
            }
        }
        need(book.getDeclaredClasses().length < 12, "more than twelve classes");
    }

    private static void source(String text) {
        String bare = text.replaceAll("(?s)/\\*.*?\\*/", "").replaceAll("//[^\n]*", "")
                .replaceAll("\"[^\"\n]*\"", "\"\"").replaceAll("'.'", "' '");
        String[] never = {"throw", "throws", "try", "catch", "finally", "synchronized", "assert", "double", "float",
            "package", "protected", "native", "volatile", "transient", "Object", "Exact"};
        for (String word : never) {
            need(!Pattern.compile("\\b" + word + "\\b").matcher(bare).find(), "the source has the word " + word);
        }
        need(!bare.contains("->") && !bare.contains("::"), "the source has a lambda or a method reference");
        Matcher imports = Pattern.compile("import ([^;]*);").matcher(bare);
        while (imports.find()) {
            need(imports.group(1).equals("java.util.Arrays"), "import of " + imports.group(1));
        }
        Matcher system = Pattern.compile("System\\.(\\w+)").matcher(bare);
        while (system.find()) {
            need(system.group(1).equals("arraycopy"), "System." + system.group(1));
        }
        Matcher statics = Pattern.compile("\\b(Integer|Long|Math)\\.(\\w+)(\\(?)").matcher(bare);
        while (statics.find()) {
            need(statics.group(3).equals("("), "no function: " + statics.group());
        }
        need(text.chars().allMatch(c -> c == '\n' || c >= 32 && c < 127), "the source has another sign");
    }
}
