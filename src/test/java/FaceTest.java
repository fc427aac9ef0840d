import java.io.IOException;
import java.lang.reflect.Constructor;
import java.lang.reflect.Field;
import java.lang.reflect.Method;
import java.lang.reflect.Modifier;
import java.nio.file.Files;
import java.nio.file.Path;
import java.util.Arrays;
import java.util.Random;
import java.util.Set;
import java.util.TreeSet;
import java.util.regex.Matcher;
import java.util.regex.Pattern;

/** The face of the class is the document's, its text keeps to what LANGUAGE.md leaves, and no call ever throws. */
public final class FaceTest {
    private static final Set<String> FACE = Set.of(
            "int output(int)", "int write(int,int,int)", "int barrier(int)", "int keep(int)", "int show()",
            "int give(int)", "int end(int)", "int fails(int,int)", "int power(int)", "int open()", "int about(int,int)",
            "int part(int,int,int)", "long line(int,int,int)", "long last(int,int,int)", "int reader(int)",
            "int read(int,int)", "int seen(int,int)", "int record(int,int)", "int told(int)", "int audit()");
    private static final String[] LEFT_OUT = {"\\bthrow\\b", "\\btry\\b", "\\bcatch\\b", "\\bsynchronized\\b",
        "\\bassert\\b", "->", "::", "Exact\\b", "\\bpackage\\b", "\\bSystem\\.(?!arraycopy)", "\\bThread\\b",
        "\\bRandom\\b", "\\bHashMap\\b", "\\bprotected\\b", "\\bhashCode\\b", "\\btoString\\b"};

    public static void main(String[] args) throws Exception {
        publicFace();
        nothingElseIsSeen();
        text(Path.of(args.length > 0 ? args[0] : "."));
        nothingThrows();
        Due.end("FaceTest");
    }

    private static String told(Method method) {
        StringBuilder types = new StringBuilder();
        for (Class<?> type : method.getParameterTypes()) types.append(types.length() == 0 ? "" : ",").append(type);
        return method.getReturnType() + " " + method.getName() + "(" + types + ")";
    }

    private static void publicFace() throws Exception {
        Class<?> face = TwoStepOutputs.class;
        Due.holds("public and final", Modifier.isPublic(face.getModifiers()) && Modifier.isFinal(face.getModifiers()));
        Set<String> there = new TreeSet<>();
        for (Method method : face.getDeclaredMethods()) {
            if (Modifier.isPublic(method.getModifiers())) there.add(told(method));
        }
        Due.holds("the public methods: " + there, there.equals(FACE));
        Due.is("constructors", face.getConstructors().length, 1);
        Due.is("its parameters", face.getConstructors()[0].getParameterCount(), 0);
        String[] names = {"UNKNOWN", "OUTSIDE", "STATE", "ROOM", "DOWN", "NONE"};
        for (int i = 0; i < names.length; i++) Due.is(names[i], face.getField(names[i]).getInt(null), -1 - i);
        Due.is("NO", face.getField("NO").getLong(null), Long.MIN_VALUE);
        Due.is("public fields", face.getFields().length, names.length + 1);
    }

    private static void nothingElseIsSeen() {
        Class<?> face = TwoStepOutputs.class;
        Set<String> names = new TreeSet<>();
        for (String method : FACE) names.add(method.substring(method.indexOf(' ') + 1, method.indexOf('(')));
        for (Method method : face.getDeclaredMethods()) {
            if (method.isSynthetic() || Modifier.isPublic(method.getModifiers())) continue;
            Due.holds(method + " is private", Modifier.isPrivate(method.getModifiers()));
            Due.holds(method + " bears no public name", !names.contains(method.getName()));
        }
        for (Field field : face.getDeclaredFields()) {
            boolean seen = !Modifier.isPrivate(field.getModifiers()) && !Modifier.isPublic(field.getModifiers());
            Due.holds(field + " is not seen", field.isSynthetic() || !seen);
            boolean changes = Modifier.isStatic(field.getModifiers()) && !Modifier.isFinal(field.getModifiers());
            Due.holds(field + " is no static state", !changes);
        }
        for (Constructor<?> made : face.getDeclaredConstructors()) Due.holds("public", Modifier.isPublic(made.getModifiers()));
        Class<?>[] inside = face.getDeclaredClasses();
        Due.holds("at most twelve classes", inside.length < 12);
        for (Class<?> own : inside) {
            Due.holds(own + " is static", Modifier.isStatic(own.getModifiers()));
            Due.holds(own + " is not public", !Modifier.isPublic(own.getModifiers()));
            for (Method method : own.getDeclaredMethods()) {
                Due.holds(method + " bears no public name", !names.contains(method.getName()));
            }
        }
    }

    private static void text(Path root) throws IOException {
        String source = Files.readString(root.resolve("src/main/java/TwoStepOutputs.java"));
        String code = source.replaceAll("(?s)/\\*.*?\\*/", "").replaceAll("//[^\n]*", "");
        for (String word : LEFT_OUT) Due.holds("no " + word, !Pattern.compile(word).matcher(code).find());
        Matcher imports = Pattern.compile("import ([^;]*);").matcher(code);
        while (imports.find()) {
            Due.holds(imports.group(), Set.of("java.util.ArrayList", "java.util.List", "java.util.Arrays").contains(imports.group(1)));
        }
        Due.holds("plain characters alone", source.chars().allMatch(c -> c < 128));
    }

    /** Also behind the 512th call, where answers are free. */
    private static void nothingThrows() throws Exception {
        Random random = new Random(7);
        Method[] methods = Arrays.stream(TwoStepOutputs.class.getDeclaredMethods())
                .filter(m -> Modifier.isPublic(m.getModifiers()))
                .sorted((a, b) -> told(a).compareTo(told(b))).toArray(Method[]::new);
        int[] odd = {Integer.MIN_VALUE, -6, -1, 0, 1, 2, 3, 4, 9, 10, 100, 999_999, 1_000_000, Integer.MAX_VALUE};
        for (int run = 0; run < 40; run++) {
            TwoStepOutputs x = new TwoStepOutputs();
            int mark = 0;
            for (int o = 0; o < 3; o++) x.output(random.nextInt(2));
            for (int call = 0; call < 5_000; call++) {
                Method method = methods[random.nextInt(methods.length)];
                if (method.getName().equals("end") && call < 4_000) continue;
                Object[] with = new Object[method.getParameterCount()];
                for (int i = 0; i < with.length; i++) with[i] = random.nextInt(3) > 0 ? random.nextInt(5) : odd[random.nextInt(odd.length)];
                method.invoke(x, with);
                x.write(random.nextInt(3), random.nextInt(10), call);
                if (random.nextInt(30) == 0) x.barrier(++mark);
                if (random.nextInt(60) == 0) x.keep(mark);
                if (random.nextInt(9) == 0) x.open();
            }
            Due.is("audit behind " + run, x.audit(), 0);
        }
    }
}
