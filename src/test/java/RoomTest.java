import java.io.IOException;
import java.lang.reflect.Array;
import java.lang.reflect.Field;
import java.lang.reflect.Modifier;
import java.nio.file.Files;
import java.nio.file.Path;
import java.util.IdentityHashMap;
import java.util.Map;

/** All calls of one run live in one room: even 513 objects would, and no call but the constructor makes any. */
final class RoomTest {
    private static final long CALLS = 513;
    private static final long MOST_OBJECTS = 600_000;
    private static final long MOST_ELEMENTS = 7_300_000;

    private final Map<Object, Boolean> seen = new IdentityHashMap<>();
    private long elements = 0;

    public static void main(String[] args) throws IOException, IllegalAccessException {
        DewBaron x = new DewBaron();
        RoomTest fresh = held(x);
        Check.due("objects of a new one: " + fresh.seen.size(), true, fresh.seen.size() * CALLS <= MOST_OBJECTS);
        Check.due("elements of a new one: " + fresh.elements, true, fresh.elements * CALLS <= MOST_ELEMENTS);
        Check.due("elements are counted", true, fresh.elements > 1600);
        use(x);
        RoomTest used = held(x);
        Check.due("objects of a used one", fresh.seen.size(), used.seen.size());
        Check.due("elements of a used one", fresh.elements, used.elements);
        Check.due("the used one holds what the new one did", true, used.seen.keySet().containsAll(fresh.seen.keySet()));
        madeByConstructorsAlone();
        Check.end();
    }

    private static RoomTest held(Object from) throws IllegalAccessException {
        RoomTest room = new RoomTest();
        room.count(from);
        return room;
    }

    private void count(Object one) throws IllegalAccessException {
        if (one == null || seen.put(one, true) != null) {
            return;
        }
        if (one.getClass().isArray()) {
            elements += Array.getLength(one);
            for (int i = 0; i < Array.getLength(one) && !one.getClass().getComponentType().isPrimitive(); i++) {
                count(Array.get(one, i));
            }
            return;
        }
        for (Field field : one.getClass().getDeclaredFields()) {
            if (!Modifier.isStatic(field.getModifiers())) {
                field.setAccessible(true);
                elements++;
                if (!field.getType().isPrimitive()) {
                    count(field.get(one));
                }
            }
        }
    }

    private static void use(DewBaron x) {
        for (int i = 0; i < 20; i++) {
            Check.due("island()", 9, Check.tell(x, "island 7 6;wall at 2 1;house at 3 3;cistern c at 0 0;cistern d at 6 5;"
                + "cloth a takes 9 at 1 1;cloth b takes 4 at 5 5;dew min(takes,cold)+open;dries wet/3;"));
            x.night();
            x.nights(40);
            x.wall(40, true);
            x.hang(1, 30);
            x.undo();
            x.order(0);
            x.alike(2, 0);
            x.linen(50, 1);
            x.best(0);
            x.stores(0);
            Check.put(x, 0, 1, 2, 3);
            x.walked();
            Check.on(x, Check.octets(x));
            Check.tell(x, "island 7 6;dew (((((((1)))))));dries ((((((((1");
        }
    }

    /** Objects are made where fields are told, and in the constructor of Past: nowhere else. */
    private static void madeByConstructorsAlone() throws IOException {
        int made = 0;
        for (String line : Files.readAllLines(Path.of("src/main/java/DewBaron.java"))) {
            if (line.matches(".*\\bnew \\w+[\\[(].*")) {
                made++;
                boolean field = line.matches(" {4}(?: {4})?(private )?(final )?\\w+(\\[\\])* \\w+ = new .*;");
                Check.due(line, true, field || line.trim().equals("kept[i] = new Land();"));
            }
        }
        Check.due("lines that make objects are found", true, made > 20);
    }
}
