import java.lang.reflect.Constructor;
import java.lang.reflect.Field;
import java.lang.reflect.Method;
import java.lang.reflect.Modifier;
import java.nio.file.Files;
import java.nio.file.Path;
import java.util.Arrays;
import java.util.List;
import java.util.Set;
import java.util.TreeSet;
import java.util.regex.Matcher;
import java.util.regex.Pattern;

/** The face is the document's and no more; the source keeps to what LANGUAGE.md leaves, as far as words tell. */
public final class FaceTest {
    private static final List<String> FACE = List.of(
        "int write(int)", "int wipe()", "int fault()", "int lay()", "int strike(int,int)", "int law(int)",
        "int carve(int)", "int chip()", "int undo()", "int sign(int,int)", "int word(int,int)",
        "int least(int,int)", "int mark(int)", "long writings(int)", "int carved(int)", "int read(int,int)",
        "long readings()", "int reading(int)", "int cut(int)", "int count(int)");
    private static final List<String> FORBIDDEN = List.of(
        "throw", "throws", "try", "catch", "synchronized", "assert", "->", "::", "@", "HashMap", "System.out",
        "Exact\\(", "float", "double");

    private static final Check check = new Check();

    public static void main(String[] args) throws Exception {
        lookAtMembers();
        lookAtSource();
        check.finish();
    }

    private static void lookAtMembers() {
        Class<?> face = RebusSigns.class;
        check.holds("public final", Modifier.isPublic(face.getModifiers()) && Modifier.isFinal(face.getModifiers()));
        Set<String> open = new TreeSet<>();
        Set<String> hidden = new TreeSet<>();
        for (Method m : face.getDeclaredMethods()) {
            if (Modifier.isPrivate(m.getModifiers())) {
                hidden.add(m.getName());
            } else {
                open.add(m.getReturnType() + " " + m.getName() + "("
                    + String.join(",", Arrays.stream(m.getParameterTypes()).map(Class::getName).toList()) + ")");
            }
        }
        check.holds("the methods are the document's: " + open, open.equals(new TreeSet<>(FACE)));
        for (String method : FACE) {
            String name = method.substring(method.indexOf(' ') + 1, method.indexOf('('));
            check.holds("no private method is called " + name, !hidden.contains(name));
        }
        Constructor<?>[] made = face.getDeclaredConstructors();
        check.due("constructors", made.length, 1);
        check.holds("public constructor without parameters",
            Modifier.isPublic(made[0].getModifiers()) && made[0].getParameterCount() == 0);
        Set<String> constants = new TreeSet<>();
        for (Field f : face.getDeclaredFields()) {
            if (!Modifier.isPrivate(f.getModifiers())) {
                constants.add(f.getName());
            }
            check.holds(f.getName() + " is final if static",
                !Modifier.isStatic(f.getModifiers()) || Modifier.isFinal(f.getModifiers()));
        }
        check.holds("the constants are the document's", constants.equals(Set.of("BAD", "NO", "FULL", "NONE")));
        check.due("BAD", RebusSigns.BAD, -1);
        check.due("NO", RebusSigns.NO, -2);
        check.due("FULL", RebusSigns.FULL, -3);
        check.due("NONE", RebusSigns.NONE, -4);
        for (Class<?> inside : face.getDeclaredClasses()) {
            check.holds(inside.getName() + " is static", Modifier.isStatic(inside.getModifiers()));
        }
    }

    private static void lookAtSource() throws Exception {
        String source = Files.readString(Path.of("src/main/java/RebusSigns.java"));
        String code = source.replaceAll("(?s)/\\*.*?\\*/", " ").replaceAll("//[^\n]*", " ")
            .replaceAll("\"[^\"\n]*\"", "\"\"");
        for (String word : FORBIDDEN) {
            String whole = Character.isLetter(word.charAt(0)) ? "\\b" + word : word;
            Matcher m = Pattern.compile(Character.isLetter(word.charAt(word.length() - 1)) ? whole + "\\b" : whole)
                .matcher(code);
            check.holds("the source has no " + word, !m.find());
        }
        Matcher imports = Pattern.compile("import ([\\w.*]+);").matcher(code);
        while (imports.find()) {
            check.holds("import of " + imports.group(1), imports.group(1).equals("java.util.Arrays"));
        }
    }
}
