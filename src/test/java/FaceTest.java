import java.io.IOException;
import java.lang.reflect.Field;
import java.lang.reflect.Method;
import java.lang.reflect.Modifier;
import java.nio.file.Files;
import java.nio.file.Path;
import java.util.Arrays;
import java.util.Set;
import java.util.TreeSet;

/** The public face, whole and alone; and words that ../shared/LANGUAGE.md keeps out of the source. */
final class FaceTest {
    private static final String[] FACE = {
        "int feed(int,int,int,int,int)", "boolean end(int)", "int island()", "int fault(int)", "int has(int)",
        "int letter(int,int,int)", "int cell(int,int)", "int thing(int,int)", "int cistern(int,int)", "int sky(int)",
        "int cold(int,int)", "int dew(int,int,int)", "int whole(int)", "boolean hang(int,int)",
        "boolean wall(int,boolean)", "int night()", "int nights(int)", "boolean undo()", "boolean seed(int)",
        "int order(int)", "int wrung()", "int alike(int,int)", "int linen(int,int)", "int down(int,int)",
        "int best(int)", "int votes(int,int)", "int walked()", "int walk(int)", "int stores(int)", "int image()",
        "int octet(int)", "boolean on()", "int status(int)"};

    public static void main(String[] args) throws IOException {
        Set<String> due = new TreeSet<>(Arrays.asList(FACE));
        Set<String> is = new TreeSet<>();
        Set<String> names = new TreeSet<>();
        for (Method method : DewBaron.class.getDeclaredMethods()) {
            if (Modifier.isPublic(method.getModifiers())) {
                String asked = Arrays.toString(method.getParameterTypes()).replaceAll("[\\[\\] ]", "");
                is.add(method.getReturnType() + " " + method.getName() + "(" + asked + ")");
                names.add(method.getName());
            }
        }
        Check.due("the public methods are " + is, true, due.equals(is));
        Check.due("public and final", Modifier.PUBLIC | Modifier.FINAL, DewBaron.class.getModifiers());
        Check.due("one constructor", 1, DewBaron.class.getDeclaredConstructors().length);
        for (Class<?> one : DewBaron.class.getDeclaredClasses()) {
            Check.due(one + " is static and not public", Modifier.STATIC,
                one.getModifiers() & (Modifier.STATIC | Modifier.PUBLIC | Modifier.PROTECTED));
            notNamedAsPublic(one, names);
        }
        notNamedAsPublic(DewBaron.class, names);
        onlyPrivateBeside();
        source();
        Check.end();
    }

    private static void notNamedAsPublic(Class<?> one, Set<String> names) {
        for (Method method : one.getDeclaredMethods()) {
            boolean own = one == DewBaron.class && Modifier.isPublic(method.getModifiers());
            Check.due(method + " is named as a public one", false, !own && names.contains(method.getName()));
        }
    }

    private static void onlyPrivateBeside() {
        for (Field field : DewBaron.class.getDeclaredFields()) {
            boolean constant = field.getName().equals("NONE") || field.getName().equals("NOTHING");
            Check.due(field + "", constant, !Modifier.isPrivate(field.getModifiers()));
            Check.due(field + " is no other static state", true,
                !Modifier.isStatic(field.getModifiers()) || Modifier.isFinal(field.getModifiers()));
        }
        for (Method method : DewBaron.class.getDeclaredMethods()) {
            int open = method.getModifiers() & (Modifier.PUBLIC | Modifier.PRIVATE);
            Check.due(method + " is public or private", true, open != 0 || method.isSynthetic());
        }
    }

    private static void source() throws IOException {
        String text = Files.readString(Path.of("src/main/java/DewBaron.java"));
        String bare = text.replaceAll("(?s)/\\*.*?\\*/", " ").replaceAll("//[^\n]*", " ").replaceAll("\"[^\"\n]*\"", "s");
        for (String word : new String[] {"throw", "throws", "try", "catch", "synchronized", "assert", "package", "var",
            "instanceof", "native", "Object", "System.out", "Thread", "Random"}) {
            boolean there = bare.matches("(?s).*(?<![\\w.])" + word.replace(".", "\\.") + "(?!\\w).*");
            Check.due("the source has " + word, false, there);
        }
        Check.due("the source has a lambda", false, bare.contains("->") || bare.contains("::"));
        Check.due("signs above 127", 0, text.chars().filter(c -> c > 126).count());
        Check.due("imports", 1, bare.split("\\bimport\\b", -1).length - 1);
    }
}
