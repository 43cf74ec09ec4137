import java.io.IOException;
import java.lang.reflect.Constructor;
import java.lang.reflect.Field;
import java.lang.reflect.Member;
import java.lang.reflect.Method;
import java.lang.reflect.Modifier;
import java.nio.file.Files;
import java.nio.file.Path;
import java.util.ArrayList;
import java.util.Arrays;
import java.util.List;
import java.util.Set;
import java.util.TreeSet;
import java.util.regex.Matcher;
import java.util.regex.Pattern;

/** LANGUAGE.md, as far as a test can hold the program to it: the face, the words and the sizes of its source. */
final class RulesTest {
    private static final Due due = new Due();

    private static final Set<String> FACE = Set.of(
        "public HorseGift()",
        "public static final int HorseGift.NONE", "public static final int HorseGift.BAD",
        "public static final int HorseGift.NO", "public static final int HorseGift.FULL",
        "public int HorseGift.thing(int,int,int,int)", "public int HorseGift.gift(int,int,int,int)",
        "public int HorseGift.put(int,int)", "public int HorseGift.out(int)",
        "public int HorseGift.city(int,int,int)", "public int HorseGift.watch(int,int,int)",
        "public int HorseGift.type(int)", "public int HorseGift.clear()", "public int HorseGift.read()",
        "public int HorseGift.send(int,int)", "public int HorseGift.undo()", "public int HorseGift.of(int,int)",
        "public int HorseGift.about(int,int)", "public int HorseGift.hide(int,int,int)",
        "public int HorseGift.wide(int,int)", "public int HorseGift.belief(int,int,boolean)",
        "public int HorseGift.knocks(int,int,int)", "public int HorseGift.game(int,int,int)",
        "public int HorseGift.stand(int,int)", "public int HorseGift.tell(int,int)",
        "public int HorseGift.sat(int,int)", "public int HorseGift.carts(int,int,int,int)",
        "public int HorseGift.years(int,int,int)", "public long HorseGift.part(int)",
        "public int HorseGift.image(int)", "public int HorseGift.from(int)", "public int HorseGift.status(int)",
        "public int HorseGift.count(int)", "public long HorseGift.digest()");

    public static void main(String[] args) throws IOException {
        face();
        inside();
        String source = Files.readString(Path.of("src/main/java/HorseGift.java"));
        words(withoutComments(source));
        lengths(source);
        objects(withoutComments(source));
        due.end("RulesTest");
    }

    private static void yes(String what, boolean holds) {
        due.is(what, holds ? 1 : 0, 1);
    }

    private static void face() {
        Set<String> face = new TreeSet<>();
        List<Member> members = new ArrayList<>(Arrays.asList(HorseGift.class.getDeclaredMethods()));
        members.addAll(Arrays.asList(HorseGift.class.getDeclaredFields()));
        members.addAll(Arrays.asList(HorseGift.class.getDeclaredConstructors()));
        Set<String> names = new TreeSet<>();
        for (Method m : HorseGift.class.getDeclaredMethods()) {
            if (Modifier.isPublic(m.getModifiers())) {
                names.add(m.getName());
            }
        }
        for (Member m : members) {
            if (!Modifier.isPrivate(m.getModifiers())) {
                face.add(m.toString());
            } else {
                yes("private method " + m.getName() + " bears a public name",
                    m instanceof Field || m instanceof Constructor || !names.contains(m.getName()));
            }
        }
        yes("the face is " + face, face.equals(new TreeSet<>(FACE)));
        yes("public and final", (HorseGift.class.getModifiers() & (Modifier.PUBLIC | Modifier.FINAL))
            == (Modifier.PUBLIC | Modifier.FINAL));
    }

    private static void inside() {
        List<Class<?>> classes = new ArrayList<>(List.of(HorseGift.class.getDeclaredClasses()));
        yes("some twelve classes", classes.size() < 12);
        classes.add(HorseGift.class);
        for (Class<?> c : classes) {
            int fields = 0;
            for (Field f : c.getDeclaredFields()) {
                boolean constant = Modifier.isStatic(f.getModifiers());
                fields += constant ? 0 : 1;
                yes(c + ": static " + f.getName() + " is final", !constant || Modifier.isFinal(f.getModifiers()));
            }
            yes(c + " has some twenty fields", fields <= 20);
            for (Method m : c.getDeclaredMethods()) {
                yes(m + " takes seven at most", m.getParameterCount() <= 7);
            }
            yes(c + " is static or the outer one", c == HorseGift.class || Modifier.isStatic(c.getModifiers()));
        }
    }

    private static String withoutComments(String source) {
        return source.replaceAll("(?s)/\\*.*?\\*/", "").replaceAll("//[^\n]*", "");
    }

    private static void words(String source) {
        String[] none = {"\\bthrow\\b", "\\bthrows\\b", "\\btry\\b", "\\bcatch\\b", "\\bsynchronized\\b", "\\bassert\\b",
            "->", "::", "Exact\\b", "\\bimport\\b", "\\bpackage\\b", "\\bthread\\b", "\\bequals\\b", "\\bhashCode\\b",
            "\\btoString\\b", "\\bvar\\b", "\\bfloat\\b", "\\bdouble\\b", "\\bObject\\b", "\\bprotected\\b",
            "@\\w+", "\\bSystem\\.(?!arraycopy\\b)", "\\bMath\\.(?!max\\b|min\\b)", "\\bInteger\\.(?!bitCount\\b)",
            "\"\\s*\\+", "\\+\\s*\"", "static\\s*\\{"};
        for (String word : none) {
            Matcher m = Pattern.compile(word).matcher(source);
            yes("no " + word, !m.find());
        }
        yes("signs of 1 to 127", source.chars().allMatch(c -> c > 0 && c < 128));
    }

    /** A method begins where a line ends with a brace behind a bracket, at four or eight blanks. */
    private static void lengths(String source) {
        String[] lines = source.split("\n");
        int start = -1;
        String end = "";
        for (int i = 0; i < lines.length; i++) {
            yes("line " + (i + 1) + " is not too long", lines[i].length() <= 120);
            Matcher m = Pattern.compile("^(    |        )[A-Za-z].*\\) \\{$").matcher(lines[i]);
            if (m.find() && !lines[i].matches("^ *(if|for|while|switch) .*")) {
                start = i;
                end = m.group(1) + "}";
            }
            if (start >= 0 && lines[i].equals(end)) {
                yes("the method of line " + (start + 1) + " is short", i - start < 60);
                start = -1;
            }
        }
    }

    /** All calls of a run live in one room, so every object is made with the one that it is a field of. */
    private static void objects(String source) {
        for (String line : source.split("\n")) {
            if (line.matches(".*\\bnew\\b.*")) {
                yes("made in a field: " + line.trim(), line.matches("^ +(private )?final [\\w\\[\\]]+ \\w+ = new [^;]+;$"));
            }
        }
        yes("no other way to make one", !source.contains(".clone(") && !source.contains("Arrays.")
            && !source.contains("StringBuilder") && !source.contains("substring") && !source.contains("toCharArray"));
    }
}
