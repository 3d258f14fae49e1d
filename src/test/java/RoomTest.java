import java.lang.reflect.Array;
import java.lang.reflect.Field;
import java.lang.reflect.Modifier;
import java.util.ArrayDeque;
import java.util.Deque;
import java.util.IdentityHashMap;
import java.util.Map;

/** An object takes little of the room that all calls of a run share, and no call makes it take more. */
public final class RoomTest {
    /** A thousand objects of the class in one run still leave most of the room free. */
    private static final int MOST_OBJECTS = 300;
    private static final int MOST_ELEMENTS = 5000;

    private static int objects;
    private static int elements;

    public static void main(String[] args) throws Exception {
        PuppetHeirs x = new PuppetHeirs();
        count(x);
        int made = objects;
        int filled = elements;
        use(x);
        count(x);
        boolean fits = made <= MOST_OBJECTS && filled <= MOST_ELEMENTS && objects == made && elements == filled;
        System.out.println("an object takes " + made + " objects and " + filled + " elements, " + objects + " and " + elements + " when used");
        if (!fits) System.exit(1);
    }

    private static void use(PuppetHeirs x) {
        Check.family(x, "hand 5 0 0;".repeat(9) + "puppet 4 1 10;".repeat(8) + "act 1 0 1 2 3 4 5 end;".repeat(6));
        Check.law(x, "(((1+limp))) * least[age,most[year,kin]]");
        Check.book(x, "1 0 0;2 1 1;");
        for (int i = 0; i < 20; i++) {
            x.image();
            x.years(3);
            x.undo(1);
            x.casts(i % 6);
            x.thumbs(i % 6);
            x.limps(i % 9);
            x.nights();
            x.last(i % 6);
            x.span(i, 20, 3, 40, 0, 0);
            x.dearest();
            x.heir(0, 0);
        }
        x.restore();
    }

    /** Counts all that can be reached from the object: objects and rows, fields and elements. */
    private static void count(Object from) throws Exception {
        objects = 0;
        elements = 0;
        Map<Object, Boolean> seen = new IdentityHashMap<>();
        Deque<Object> open = new ArrayDeque<>();
        open.add(from);
        while (!open.isEmpty()) {
            Object one = open.pop();
            if (seen.put(one, true) != null) continue;
            objects++;
            if (one.getClass().isArray()) countRow(one, open);
            else countFields(one, open);
        }
    }

    private static void countRow(Object row, Deque<Object> open) {
        elements += Array.getLength(row);
        if (row.getClass().getComponentType().isPrimitive()) return;
        for (int i = 0; i < Array.getLength(row); i++) {
            if (Array.get(row, i) != null) open.add(Array.get(row, i));
        }
    }

    private static void countFields(Object one, Deque<Object> open) throws Exception {
        for (Field field : one.getClass().getDeclaredFields()) {
            if (Modifier.isStatic(field.getModifiers())) continue;
            elements++;
            field.setAccessible(true);
            if (!field.getType().isPrimitive() && field.get(one) != null) open.add(field.get(one));
        }
    }
}
