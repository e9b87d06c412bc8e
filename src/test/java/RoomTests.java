import java.lang.reflect.Array;
import java.lang.reflect.Field;
import java.lang.reflect.Modifier;
import java.util.IdentityHashMap;
import java.util.Map;

/** All calls of a run live in one room: what a land has is made with it, is little, and grows by no call. */
public final class RoomTests extends Told {
    private static final int OBJECTS = 100;
    private static final int ELEMENTS = 8000;

    private RoomTests() {
    }

    public static void main(String[] args) throws IllegalAccessException {
        says("1", "all calls live in one room");
        ByAlphabet x = new ByAlphabet();
        Room first = new Room(x);
        due("objects and arrays are few: " + first.objects(), first.objects() <= OBJECTS ? 1 : 0, 1);
        due("fields and elements are few: " + first.elements, first.elements <= ELEMENTS ? 1 : 0, 1);
        everyCall(x);
        Room then = new Room(x);
        due("objects and arrays behind the calls", then.objects(), first.objects());
        due("fields and elements behind the calls", then.elements, first.elements);
        for (Object one : then.seen.keySet()) {
            yes("made with the land: " + one.getClass().getName(), first.seen.containsKey(one));
        }
        finish();
    }

    private static void everyCall(ByAlphabet x) {
        x.letters(6);
        x.state(5);
        for (int p = 0; p < 20; p++) {
            tell(x, "abcdef".substring(p % 6)).person(p & 1, 90, p);
        }
        tell(x, "ba").named(3);
        for (int s = 0; s < 6; s++) {
            x.site(s, s & 1, 99 - 40 * s, s, 20);
            tell(x, "fbadce").chance(s, s);
        }
        for (int v = 0; v < 12; v++) {
            tell(x, v % 2 == 0 ? "fedcba" : "cafebd").voter(1 + v % 9, v);
        }
        sells(x, "a", "b", "", "zz");
        tell(x, "bar when not (age<3 or like=9);").text();
        tell(x, "may when").text();
        x.fault(1);
        x.set(5, 40);
        tell(x, "bacdef").alphabet();
        x.image(true);
        for (int what = 0; what < 3; what++) {
            x.rest(what);
            x.wed(4, what);
            x.vote(what, 0);
            x.buy(0, 5, what, 0);
            tell(x, "c").with(2, what);
            x.of(1, 4);
        }
        x.expected(0, 0);
        x.worth(0, 2);
        x.over(0, 1);
        x.circle();
        x.take(0, 1);
        tell(x, "fbadce").harm();
        x.least(0);
        tell(x, "fbadce").anew(1);
        x.years(60);
        x.image(false);
        x.look(10);
    }

    /** All that can be come to from an object, each once. */
    private static final class Room {
        final Map<Object, Boolean> seen = new IdentityHashMap<>();
        int elements;

        Room(Object from) throws IllegalAccessException {
            walk(from);
        }

        int objects() {
            return seen.size();
        }

        private void walk(Object one) throws IllegalAccessException {
            if (one == null || seen.put(one, true) != null) {
                return;
            }
            if (one.getClass().isArray()) {
                elements += Array.getLength(one);
                for (int i = 0; i < Array.getLength(one) && !one.getClass().getComponentType().isPrimitive(); i++) {
                    walk(Array.get(one, i));
                }
                return;
            }
            for (Field field : one.getClass().getDeclaredFields()) {
                if (!Modifier.isStatic(field.getModifiers())) {
                    elements++;
                    field.setAccessible(true);
                    if (!field.getType().isPrimitive()) {
                        walk(field.get(one));
                    }
                }
            }
        }
    }
}
