import java.io.IOException;
import java.lang.management.ManagementFactory;
import java.lang.reflect.Field;
import java.lang.reflect.Member;
import java.lang.reflect.Method;
import java.lang.reflect.Modifier;
import java.nio.charset.StandardCharsets;
import java.nio.file.Files;
import java.nio.file.Path;
import java.util.Arrays;
import java.util.Set;
import java.util.TreeSet;
import java.util.regex.Matcher;
import java.util.regex.Pattern;
import java.util.stream.Collectors;

/** The public face of the document, and rules of LANGUAGE.md that can be seen from outside. */
public final class FaceTest {
    private static final String SOURCE = "src/main/java/PointDesk.java";
    private static final long ROOM_OF_ONE_OBJECT = 16384;
    private static final String INDEX = " throws IndexOutOfBoundsException";
    private static final String ARGUMENT = " throws IllegalArgumentException";
    private static final String BOTH =
            " throws IndexOutOfBoundsException,IllegalArgumentException";

    private static int wrong = 0;

    public static void main(String[] args) throws IOException {
        faceIsTheDocuments();
        constantIsPublic();
        restIsPrivate();
        classesInsideAreStatic();
        noForbiddenWords();
        callsMakeNoObjects();
        System.out.println(wrong == 0 ? "the face is as due" : wrong + " faults of the face");
        if (wrong != 0) {
            System.exit(1);
        }
    }

    private static void due(boolean isRight, String fault) {
        if (!isRight) {
            wrong++;
            System.out.println(fault);
        }
    }

    private static String text(Method method) {
        String parameters = Arrays.stream(method.getParameterTypes())
                .map(Class::getSimpleName).collect(Collectors.joining(","));
        String thrown = Arrays.stream(method.getExceptionTypes())
                .map(Class::getSimpleName).collect(Collectors.joining(","));
        return method.getReturnType().getSimpleName() + " " + method.getName()
                + "(" + parameters + ")" + (thrown.isEmpty() ? "" : " throws " + thrown);
    }

    private static void faceIsTheDocuments() {
        Set<String> want = new TreeSet<>(Arrays.asList(
                "int add(int,int)", "int clear()", "int count(int)", "int at(int,int)" + BOTH,
                "int corner(int)", "long area()", "int layer(int)", "int pair(int)",
                "long distance(int,int)" + INDEX, "int best(int)", "long side(int,int)" + BOTH,
                "int where(int,int)" + ARGUMENT, "int nearest(int,int)" + ARGUMENT,
                "int beside(int,int,int)" + INDEX, "int go(int)", "int stop()", "int place(int)",
                "void turn(int,int)" + INDEX, "int crossings()", "int crossing(int)",
                "int simple()", "long round()", "int inside(int,int)" + ARGUMENT,
                "int triangle(int)", "int check()"));
        Set<String> got = new TreeSet<>();
        for (Method method : PointDesk.class.getDeclaredMethods()) {
            if (Modifier.isPublic(method.getModifiers())) {
                got.add(text(method));
                due(!Modifier.isStatic(method.getModifiers()), "static: " + text(method));
            }
        }
        due(got.equals(want), "the public methods are " + got);
        int modifiers = PointDesk.class.getModifiers();
        due(Modifier.isPublic(modifiers) && Modifier.isFinal(modifiers), "not public and final");
        due(PointDesk.class.getConstructors().length == 1, "not one public constructor");
        due(PointDesk.class.getDeclaredConstructors().length == 1, "more constructors");
    }

    private static void constantIsPublic() {
        Field[] constants = PointDesk.class.getFields();
        String want = "public static final int PointDesk.NONE";
        due(constants.length == 1 && constants[0].toString().equals(want),
                "the public fields are " + Arrays.toString(constants));
    }

    private static void restIsPrivate() {
        for (Method method : PointDesk.class.getDeclaredMethods()) {
            if (!Modifier.isPublic(method.getModifiers())) {
                dueHidden(method);
                dueNamedUnlikeTheFace(method);
            }
        }
        for (Field field : PointDesk.class.getDeclaredFields()) {
            if (!field.getName().equals("NONE")) {
                dueHidden(field);
            }
            if (Modifier.isStatic(field.getModifiers())) {
                due(Modifier.isFinal(field.getModifiers()), "static and not final: " + field);
            }
        }
    }

    private static void dueHidden(Member member) {
        due(Modifier.isPrivate(member.getModifiers()), "not private: " + member);
    }

    private static void dueNamedUnlikeTheFace(Method method) {
        for (Method ofTheFace : PointDesk.class.getMethods()) {
            due(!ofTheFace.getName().equals(method.getName()), "a public name: " + method);
        }
    }

    private static void classesInsideAreStatic() {
        Class<?>[] inside = PointDesk.class.getDeclaredClasses();
        due(inside.length <= 12, "too many classes");
        for (Class<?> each : inside) {
            due(Modifier.isStatic(each.getModifiers()), "not static: " + each);
            due(!Modifier.isPublic(each.getModifiers()), "public: " + each);
            due(each.getDeclaredFields().length <= 20, "too many fields: " + each);
            for (Method method : each.getDeclaredMethods()) {
                due(method.getParameterCount() <= 7, "too many parameters: " + method);
                dueNamedUnlikeTheFace(method);
            }
        }
    }

    private static void noForbiddenWords() throws IOException {
        String source = Files.readString(Path.of(SOURCE), StandardCharsets.ISO_8859_1);
        String code = source.replaceAll("(?s)/\\*.*?\\*/", "").replaceAll("//[^\n]*", "")
                .replaceAll("\"[^\"\n]*\"", "\"\"");
        String[] forbidden = {"\\bimport\\b", "\\bpackage\\b", "->", "::", "\\bsynchronized\\b",
            "\\bassert\\b", "\\bfinally\\b", "\\btry\\b", "\\bstatic\\s*\\{", "Exact\\b",
            "\\bdouble\\b", "\\bfloat\\b", "\\bSystem\\b", "\\bThread\\b", "\\bwhile\\b",
            "\\bprotected\\b", "\\bjava\\."};
        for (String word : forbidden) {
            Matcher found = Pattern.compile(word).matcher(code);
            due(!found.find(), "the class uses " + word);
        }
    }

    /** All calls of a run share one room: what an object needs is made once, with it. */
    private static void callsMakeNoObjects() {
        useOften(new PointDesk());
        PointDesk desk = new PointDesk();
        long before = allocated();
        useOften(desk);
        long made = allocated() - before;
        due(made < ROOM_OF_ONE_OBJECT, "calls made objects of " + made + " bytes");
        before = allocated();
        desk = new PointDesk();
        made = allocated() - before;
        due(made < ROOM_OF_ONE_OBJECT, "an object takes " + made + " bytes");
    }

    private static long allocated() {
        com.sun.management.ThreadMXBean threads =
                (com.sun.management.ThreadMXBean) ManagementFactory.getThreadMXBean();
        return threads.getThreadAllocatedBytes(Thread.currentThread().getId());
    }

    private static void useOften(PointDesk desk) {
        // Twelve calls a turn, so that the object stays below its 512.
        for (int i = 0; i < 40; i++) {
            desk.add(i, i * i);
            desk.go(i);
            desk.count(i % 6);
            desk.corner(i);
            desk.layer(i);
            desk.best(i % 2);
            desk.crossing(i);
            desk.triangle(i);
            desk.where(i, i);
            desk.inside(i, i);
            desk.nearest(i, i);
            desk.check();
        }
        desk.pair(0);
        desk.beside(0, 1, 1);
        desk.side(0, 2);
        desk.turn(0, 39);
        desk.stop();
        desk.clear();
    }
}
