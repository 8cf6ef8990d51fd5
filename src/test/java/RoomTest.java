import java.lang.reflect.Array;
import java.lang.reflect.Field;
import java.lang.reflect.Modifier;
import java.util.ArrayList;
import java.util.Collections;
import java.util.IdentityHashMap;
import java.util.List;
import java.util.Set;

/**
 * An object takes little room, and no more after 512 of its dearest calls: all
 * calls of one run live in one room of 600,000 objects, 7,300,000 numbers.
 */
public final class RoomTest {
    private static final int CALLS_OF_AN_OBJECT = 512, MOST_OBJECTS = 100, MOST_NUMBERS = 1000;

    private int objects;
    private int numbers;
    private final Set<Object> seen = Collections.newSetFromMap(new IdentityHashMap<>());

    private RoomTest() {
    }

    public static void main(String[] args) throws IllegalAccessException {
        RoomTest first = measured(new ChipVolts());
        Due.due("few objects", first.objects <= MOST_OBJECTS ? 1 : 0, 1);
        Due.due("few numbers", first.numbers <= MOST_NUMBERS ? 1 : 0, 1);
        ChipVolts x = Nets.fullest();
        for (int w = 0; w < x.count(1); w++) {
            x.width(w, 3);
        }
        List<Long> answers = dearest(x);
        for (int call = 0; call < CALLS_OF_AN_OBJECT; call += answers.size()) {
            Due.due("the same answers after " + call, dearest(x).equals(answers) ? 1 : 0, 1);
        }
        RoomTest last = measured(x);
        Due.due("objects as at first", last.objects, first.objects);
        Due.due("numbers as at first", last.numbers, first.numbers);
        Due.end("RoomTest");
    }

    private static List<Long> dearest(ChipVolts x) {
        List<Long> all = new ArrayList<>();
        all.add((long) x.pads(3));
        all.add((long) x.widen(1000, 3));
        all.add((long) x.widen(30, 3));
        all.add((long) x.widened(30, 3, 11));
        all.add((long) x.woken(5));
        all.add(x.wokenFall(0));
        all.add((long) x.weakest());
        all.add(x.digest());
        return all;
    }

    private static RoomTest measured(ChipVolts x) throws IllegalAccessException {
        RoomTest room = new RoomTest();
        room.take(x);
        return room;
    }

    private void take(Object x) throws IllegalAccessException {
        if (x == null || !seen.add(x)) {
            return;
        }
        objects++;
        if (x.getClass().isArray()) {
            takeArray(x);
            return;
        }
        for (Field f : x.getClass().getDeclaredFields()) {
            if (Modifier.isStatic(f.getModifiers())) {
                continue;
            }
            numbers++;
            if (!f.getType().isPrimitive()) {
                f.setAccessible(true);
                take(f.get(x));
            }
        }
    }

    private void takeArray(Object x) throws IllegalAccessException {
        numbers += Array.getLength(x);
        if (!x.getClass().getComponentType().isPrimitive()) {
            for (Object inside : (Object[]) x) {
                take(inside);
            }
        }
    }
}
