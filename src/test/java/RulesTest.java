import java.io.IOException;
import java.lang.reflect.Constructor;
import java.lang.reflect.Field;
import java.lang.reflect.Method;
import java.lang.reflect.Modifier;
import java.nio.file.Files;
import java.nio.file.Path;
import java.util.Set;
import java.util.TreeSet;
import java.util.regex.Matcher;
import java.util.regex.Pattern;

/** The rules of LANGUAGE.md that can be seen from the class and from its text. */
public final class RulesTest {
    private static final String FACE = "feed5 shape5 law1 work1 put2 find1 drop1 split0 join0 fileIs1 keyIs2 where2 bucket2 page2 "
        + "chains1 finds1 next1 parted2 enough1 anew2 torn3 grown2 tuned1 signs1 passed1 costing1 since1 alike1 inOrder1 between2 "
        + "bits3 scan0 tell1 scanIs2 reach1 ends1 seed1 keep0 undo0 check1 count1";
    private static int wrong = 0;

    private static void due(String what, boolean holds) {
        if (!holds) {
            wrong++;
            System.out.println("not so: " + what);
        }
    }

    private static void face() {
        Set<String> face = new TreeSet<>(Set.of(FACE.split(" ")));
        Set<String> names = new TreeSet<>();
        for (String f : face) names.add(f.substring(0, f.length() - 1));
        Set<String> found = new TreeSet<>();
        for (Method m : SplitBehind.class.getDeclaredMethods()) {
            boolean isPublic = Modifier.isPublic(m.getModifiers());
            if (isPublic) found.add(m.getName() + m.getParameterCount());
            due(m + " is public or private", isPublic || Modifier.isPrivate(m.getModifiers()));
            due(m + " has a name of its own", isPublic || !names.contains(m.getName()));
            due(m + " answers boolean only where it should", !isPublic
                || m.getReturnType() == (Set.of("shape", "seed", "undo").contains(m.getName()) ? boolean.class : int.class));
        }
        due("the face is the document's: " + found, found.equals(face));
        for (Field f : SplitBehind.class.getDeclaredFields()) {
            due(f + " is private", Modifier.isPrivate(f.getModifiers()) || f.getName().equals("NONE"));
        }
        Constructor<?>[] made = SplitBehind.class.getConstructors();
        due("one constructor without arguments", made.length == 1 && made[0].getParameterCount() == 0);
        due("the class is final", Modifier.isFinal(SplitBehind.class.getModifiers()));
        due("some twelve classes", SplitBehind.class.getDeclaredClasses().length <= 11);
        for (Class<?> c : SplitBehind.class.getDeclaredClasses()) inside(c, names);
    }

    private static void inside(Class<?> c, Set<String> names) {
        due(c + " is static and not public", Modifier.isStatic(c.getModifiers()) && !Modifier.isPublic(c.getModifiers()));
        int fields = 0;
        for (Field f : c.getDeclaredFields()) {
            if (!Modifier.isStatic(f.getModifiers())) fields++;
            else due(f + " is final", Modifier.isFinal(f.getModifiers()));
        }
        due(c + " has some twenty fields at most", fields <= 20);
        for (Method m : c.getDeclaredMethods()) {
            due(m + " takes seven at most", m.getParameterCount() <= 7);
            due(m + " has a name of its own", !names.contains(m.getName()));
        }
    }

    /** The text without comments and without what stands between quotes. */
    private static String bare(String text) {
        return text.replaceAll("(?s)/\\*.*?\\*/", "").replaceAll("//[^\n]*", "").replaceAll("'[^'\n]+'", "' '").replaceAll("\"[^\"\n]*\"", "\"\"");
    }

    private static void text(String source) {
        String bare = bare(source);
        for (String word : new String[] {"throw", "throws", "try", "catch", "finally", "synchronized", "assert", "hashCode", "toString",
            "equals", "package", "native", "volatile", "Object", "Random", "Thread", "System.out", "nanoTime", "currentTimeMillis"}) {
            due("no " + word, !Pattern.compile("\\b" + Pattern.quote(word) + "\\b").matcher(bare).find());
        }
        due("no lambda", !bare.contains("->"));
        due("no method reference", !bare.contains("::"));
        due("none but arraycopy of System", bare.replace("System.arraycopy", "").indexOf("System") < 0);
        Matcher imports = Pattern.compile("import ([^;]+);").matcher(bare);
        while (imports.find()) due("import " + imports.group(1), imports.group(1).equals("java.util.Arrays"));
        for (char c : source.toCharArray()) due("signs of ASCII alone", c < 128);
        lengths(source);
    }

    private static void lengths(String source) {
        String[] lines = source.split("\n");
        Pattern head = Pattern.compile("^( {4}| {8})(public |private |static |final )*[\\w\\[\\]]+ \\w+\\([^)]*\\) \\{$");
        for (int i = 0; i < lines.length; i++) {
            Matcher m = head.matcher(lines[i]);
            if (!m.matches()) continue;
            int end = i;
            while (end < lines.length && !lines[end].equals(m.group(1) + "}")) end++;
            due("short: " + lines[i].trim(), end - i <= 60);
        }
    }

    public static void main(String[] args) throws IOException {
        face();
        text(Files.readString(Path.of("src/main/java/SplitBehind.java")));
        System.out.println("rules: " + wrong + " not kept");
        if (wrong > 0) System.exit(1);
    }
}
