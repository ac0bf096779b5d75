import java.lang.reflect.InvocationTargetException;
import java.lang.reflect.Method;
import java.lang.reflect.Modifier;
import java.util.ArrayList;
import java.util.List;
import java.util.Random;

/** Every call with any numbers in many states: none throws, and refused ones leave the counts as they are. */
public final class NeverThrowsTest {
    private static final int[] EDGES = {Integer.MIN_VALUE, Integer.MIN_VALUE + 1, -1000, -2, -1, 0, 1, 2, 3, 4, 5, 6, 7, 8, 9, 10, 11, 12,
        13, 14, 39, 40, 41, 59, 60, 61, 99, 100, 900, 901, Integer.MAX_VALUE - 1, Integer.MAX_VALUE};
    private static final String[] TEXTS = {
        "works mirrors 6 twist 3;places 5;arc 0 1 by 7;arc 1 2 by 0;arc 2 3 by 3;arc 3 4 by 11;arc 4 0 by 1;half 2 by 8;arc 1 1 by 2;",
        "works quaternions twist 0;arc 0 0 by 1;arc 0 0 by 2;half 0 by 4;arc 0 0 by 0;keeps : member > twist;weighs : member * arc;",
        "works cyclic 12 twist 9;places 2;arc 0 1 by 0;arc 0 1 by 1;arc 0 1 by 2;arc 0 1 by 3;arc 0 1 by 4;arc 0 1 by 5;arc 0 1 by 6;"
            + "arc 0 1 by 7;arc 0 1 by 8;arc 0 1 by 9;arc 0 1 by 10;arc 0 1 by 11;",
        "works product 1 1 twist 0;"};

    public static void main(String[] args) throws IllegalAccessException, InvocationTargetException {
        Random lots = new Random(7);
        List<Method> face = new ArrayList<>();
        for (Method m : CageLift.class.getDeclaredMethods()) if (Modifier.isPublic(m.getModifiers())) face.add(m);
        face.sort((a, b) -> a.getName().compareTo(b.getName()));
        int moved = 0;
        for (int run = 0; run < 120; run++) {
            CageLift x = new CageLift();
            for (int call = 0; call < 500; call++) {
                if (call % 60 == 20) tell(x, TEXTS[lots.nextInt(TEXTS.length)]);
                int[] before = counts(x);
                Method m = face.get(lots.nextInt(face.size()));
                Object[] with = new Object[m.getParameterCount()];
                for (int i = 0; i < with.length; i++) {
                    int v = lots.nextInt(3) > 0 ? EDGES[lots.nextInt(EDGES.length)] : lots.nextInt(5);
                    with[i] = m.getParameterTypes()[i] == long.class ? (Object) (lots.nextBoolean() ? (long) v * 4294967291L : v) : (Object) v;
                }
                long answer = ((Number) m.invoke(x, with)).longValue();
                boolean read = m.getName().equals("works") && answer < -30;
                if (answer < -1 && !m.getName().equals("write") && !read && !java.util.Arrays.equals(before, counts(x))) {
                    System.out.println(m.getName() + " was refused by " + answer + " and changed something");
                    moved++;
                }
            }
        }
        System.out.println(moved == 0 ? "no call threw" : moved + " refused calls changed something");
        if (moved != 0) System.exit(1);
    }

    private static int[] counts(CageLift x) {
        int[] all = new int[10];
        for (int i = 0; i < 10; i++) all[i] = x.count(i);
        return all;
    }

    private static void tell(CageLift x, String text) {
        x.works(0);
        StringBuilder b = new StringBuilder(text);
        while (b.length() % 20 != 0) b.append(' ');
        for (int i = 0; i < b.length(); i += 20) {
            int[] v = new int[5];
            for (int j = 0; j < 20; j++) v[j / 4] = v[j / 4] << 8 | b.charAt(i + j) & 255;
            x.feed(v[0], v[1], v[2], v[3], v[4]);
        }
        if (x.works(text.length()) < 1) throw new IllegalStateException(text);
    }
}
