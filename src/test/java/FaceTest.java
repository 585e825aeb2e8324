import java.lang.reflect.Constructor;
import java.lang.reflect.Field;
import java.lang.reflect.Method;
import java.lang.reflect.Modifier;
import java.util.Arrays;
import java.util.Set;
import java.util.TreeSet;

/** The public face as the document declares it, and promise 1: a new object. */
public final class FaceTest {
    private static final String[] DECLARED = {
        "int feed(int,int,int,int,int)",
        "int town(int) IllegalArgumentException",
        "int fault()",
        "int count(int) NoSuchElementException",
        "int work(int,int) NoSuchElementException",
        "int way(int,int,int) NoSuchElementException",
        "int find(int,int) NoSuchElementException",
        "int same(int,int,int,int) NoSuchElementException",
        "boolean done(int,int) NoSuchElementException",
        "int book(int,int) NoSuchElementException",
        "int left(int,int) NoSuchElementException",
        "int tell(int,int) NoSuchElementException",
        "int judge(int,int) NoSuchElementException",
        "int apart(int,int,int) NoSuchElementException IllegalArgumentException",
        "boolean weight(int,int)",
        "int years(int,int,int) NoSuchElementException IllegalArgumentException",
        "int lasts(int,int) NoSuchElementException",
        "int chance(int,int,int) NoSuchElementException IllegalArgumentException",
        "int joint(int,int,int) NoSuchElementException",
        "int person(int,int) NoSuchElementException",
        "int given(int,int) NoSuchElementException",
        "int more(int,int) NoSuchElementException",
        "int court(int,int,int) NoSuchElementException IllegalArgumentException",
        "int near(int,int,int) NoSuchElementException IllegalArgumentException",
        "int drawn(int,int,int,int) NoSuchElementException IllegalArgumentException",
        "void image()",
        "boolean restore()",
    };

    public static void main(String[] args) throws ReflectiveOperationException {
        declarations();
        newObject();
        Check.end();
    }

    private static void declarations() throws ReflectiveOperationException {
        Class<?> face = NeverTwice.class;
        Check.due("the class", Modifier.toString(face.getModifiers()), "public final");
        Set<String> methods = new TreeSet<>();
        Set<String> publicNames = new TreeSet<>();
        for (Method method : face.getDeclaredMethods()) {
            if (!Modifier.isPrivate(method.getModifiers()) && !method.isSynthetic()) {
                methods.add(Modifier.toString(method.getModifiers()) + " " + told(method));
                publicNames.add(method.getName());
            }
        }
        Set<String> want = new TreeSet<>();
        for (String declared : DECLARED) {
            want.add("public " + declared);
        }
        Check.due("the methods", methods.toString(), want.toString());
        for (Method method : face.getDeclaredMethods()) {
            boolean hides = Modifier.isPrivate(method.getModifiers()) && publicNames.contains(method.getName());
            Check.due("private " + method.getName() + " bears a public name", hides, false);
        }
        Constructor<?>[] made = face.getDeclaredConstructors();
        Check.due("the constructors", made.length, 1);
        Check.due("the constructor", made[0].toString(), "public NeverTwice()");
        for (Field field : face.getDeclaredFields()) {
            boolean isPrivate = Modifier.isPrivate(field.getModifiers());
            Check.due("the field " + field.getName(), isPrivate || field.getName().equals("NONE"), true);
            if (Modifier.isStatic(field.getModifiers())) {
                Check.due("static " + field.getName(), Modifier.isFinal(field.getModifiers()), true);
            }
        }
        Field none = face.getDeclaredField("NONE");
        Check.due("NONE", Modifier.toString(none.getModifiers()) + none.getType(), "public static finalint");
        Check.due("NONE", NeverTwice.NONE, -1);
    }

    private static String told(Method method) {
        StringBuilder told = new StringBuilder(method.getReturnType().toString());
        told.append(' ').append(method.getName()).append('(');
        String[] types = Arrays.stream(method.getParameterTypes()).map(Class::toString).toArray(String[]::new);
        told.append(String.join(",", types)).append(')');
        for (Class<?> thrown : method.getExceptionTypes()) {
            told.append(' ').append(thrown.getSimpleName());
        }
        return told.toString();
    }

    private static void newObject() {
        NeverTwice x = new NeverTwice();
        for (int what = 0; what <= 6; what++) {
            Check.due("count(" + what + ")", x.count(what), 0);
        }
        Check.due("fault()", x.fault(), -1);
        Check.noSuch("work(0, 0)", () -> x.work(0, 0));
        Check.noSuch("way(0, 0, 0)", () -> x.way(0, 0, 0));
        Check.noSuch("find(0, 0)", () -> x.find(0, 0));
        Check.noSuch("book(0, 0)", () -> x.book(0, 0));
        Check.noSuch("person(0, 1)", () -> x.person(0, 1));
        Check.noSuch("tell(0, 1)", () -> x.tell(0, 1));
        Check.noSuch("years(0, 0, 0)", () -> x.years(0, 0, 0));
        Check.noSuch("chance(0, -1, -1)", () -> x.chance(0, -1, -1));
        Check.noSuch("court(0, 9, 9)", () -> x.court(0, 9, 9));
        Check.noSuch("near(0, 0, 99)", () -> x.near(0, 0, 99));
        Check.due("drawn(5, 1000, 1, 2)", x.drawn(5, 1000, 1, 2), 0);
        Check.due("restore()", x.restore(), false);
        Check.due("weight(0, 99)", x.weight(0, 99), true);
        x.image();
        Check.due("restore() behind image()", x.restore(), true);
        Check.due("count(0)", x.count(0), 0);
    }
}
