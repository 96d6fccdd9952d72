import java.lang.reflect.Method;
import java.lang.reflect.Modifier;
import java.util.ArrayList;
import java.util.Comparator;
import java.util.List;
import java.util.Random;

/** No call ever throws, whatever its arguments are, in whatever state; and the room stays small. */
public final class WildCallsTest {
    private static final int[] WILD = {
        Integer.MIN_VALUE, Integer.MIN_VALUE + 1, -1000, -2, -1, 0, 1, 2, 3, 4, 5, 9, 12, 13, 15, 16, 17, 20, 26,
        27, 31, 32, 64, 68, 99, 100, 101, 400, 401, 999, 1000, 1008, 1009, 65535, Integer.MAX_VALUE - 1,
        Integer.MAX_VALUE
    };
    private static final String[] TEXTS = {
        "", "buckets 16;slots 4;stash 4;depth 16;tries 4;full rehash;", "buckets 16;slots 4;stash 4;full test;depth 0;",
        "buckets 1;slots 1;stash 4;full grow;kick walk;depth 16;", "buckets 1;slots 1;stash 0;full rehash;kick walk;",
        "buckets 15;slots 3;kick none;full test;tries 4;", "one 1008 1008;two 1008 1008;full grow;kick walk;"
    };

    public static void main(String[] args) throws Exception {
        List<Method> calls = new ArrayList<>();
        for (Method call : TwoChoices.class.getDeclaredMethods()) {
            if (Modifier.isPublic(call.getModifiers())) {
                calls.add(call);
            }
        }
        calls.sort(Comparator.comparing(Method::getName));
        int made = 0;
        for (int run = 0; run < 700; run++) {
            made += run(calls, new Random(run), TEXTS[run % TEXTS.length]);
        }
        System.out.println(made + " wild calls, none threw");
    }

    private static int run(List<Method> calls, Random dice, String text) throws Exception {
        TwoChoices map = Tapes.mapOf(text);
        for (int k = 0; k < 512; k++) {
            if (dice.nextInt(3) > 0) {
                map.put(dice.nextInt(1000), dice.nextInt(1000));
            } else {
                Method call = calls.get(dice.nextInt(calls.size()));
                Class<?>[] kinds = call.getParameterTypes();
                Object[] values = new Object[kinds.length];
                for (int n = 0; n < kinds.length; n++) {
                    if (kinds[n] == boolean.class) {
                        values[n] = dice.nextBoolean();
                    } else {
                        values[n] = dice.nextInt(4) == 0 ? dice.nextInt() : WILD[dice.nextInt(WILD.length)];
                    }
                }
                call.invoke(map, values);
            }
        }
        return 512;
    }
}
