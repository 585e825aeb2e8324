import java.lang.management.ManagementFactory;
import java.lang.reflect.Array;
import java.lang.reflect.Field;
import java.lang.reflect.Modifier;
import java.util.IdentityHashMap;
import java.util.Map;

/** The room of a run: what an object is made of, and that no call that answers makes anything. */
public final class RoomTest {
    private static final String SET = "set6;" + Check.times(12, "part1;");
    private static final String NET = "net8;" + Check.times(3, "step0 1 1;step1 2 1;step2 3 1;step3 4 1;step4 5 1;step5 6 1;")
            + "step6 7 1;step6 7 2;";

    private static long elements = 0;

    public static void main(String[] args) throws ReflectiveOperationException {
        Map<Object, Boolean> seen = new IdentityHashMap<>();
        look(new NeverTwice(), seen);
        System.out.println("an object is made of " + seen.size() + " parts with " + elements + " fields and elements");
        Check.due("parts of an object are few", seen.size() <= 300, true);
        Check.due("fields and elements of an object are few", elements <= 40000, true);
        int[] text = new int[175];
        String town = NET + NET + SET + SET + "order same other 3;" + Check.times(6, "act1;");
        Check.due("the text fits", town.length() <= 700, true);
        town = town + " ".repeat(700 - town.length());
        for (int i = 0; i < 175; i++) {
            text[i] = Check.number(town, 4 * i);
        }
        // three rounds of an object, of which no more than 512 calls are promised
        NeverTwice[] objects = new NeverTwice[14];
        for (int i = 0; i < objects.length; i++) {
            objects[i] = new NeverTwice();
        }
        for (int i = 0; i < 30; i++) {
            all(objects[i / 3], text);
        }
        com.sun.management.ThreadMXBean bean = (com.sun.management.ThreadMXBean) ManagementFactory.getThreadMXBean();
        long id = Thread.currentThread().getId();
        long before = bean.getThreadAllocatedBytes(id);
        for (int i = 30; i < 42; i++) {
            all(objects[i / 3], text);
        }
        long made = bean.getThreadAllocatedBytes(id) - before;
        System.out.println("twelve rounds of all calls made " + made + " bytes");
        Check.due("twelve rounds of all calls make as good as nothing", made < 10000, true);
        Check.end();
    }

    private static void look(Object part, Map<Object, Boolean> seen) throws ReflectiveOperationException {
        if (part == null || seen.put(part, true) != null) {
            return;
        }
        if (part.getClass().isArray()) {
            elements += Array.getLength(part);
            for (int i = 0; !part.getClass().getComponentType().isPrimitive() && i < Array.getLength(part); i++) {
                look(Array.get(part, i), seen);
            }
            return;
        }
        for (Field field : part.getClass().getDeclaredFields()) {
            if (!Modifier.isStatic(field.getModifiers())) {
                elements++;
                field.setAccessible(true);
                if (!field.getType().isPrimitive()) {
                    look(field.get(part), seen);
                }
            }
        }
    }

    private static void all(NeverTwice x, int[] text) {
        for (int i = 0; i < 175; i += 5) {
            x.feed(text[i], text[i + 1], text[i + 2], text[i + 3], text[i + 4]);
        }
        x.town(700);
        x.fault();
        x.count(0);
        x.image();
        x.drawn(100, 900, 77, 0);
        for (int w = 0; w < x.count(0); w++) {
            x.work(w, 5);
            x.way(w, 9, 3);
            x.find(w, 3);
            x.same(w, 1, 2, 1);
            x.done(w, 700);
            x.book(w, 1);
            x.left(w, 3);
            x.tell(w, 5);
            x.judge(w, 0);
            x.apart(w, 3, 0);
            x.weight(w, 3);
            x.years(w, 20, 0);
            x.lasts(w, 2);
            x.chance(w, 500, 100);
            x.person(w, 100);
            x.given(w, 0);
            x.court(w, 2, 3);
            x.near(w, 1, 3);
        }
        x.joint(2, 3, 2);
        x.more(0, 2);
        x.restore();
    }
}
