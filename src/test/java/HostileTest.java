import java.lang.reflect.InvocationTargetException;
import java.lang.reflect.Method;
import java.util.Random;

/**
 * No call may ever throw, for any arguments in any state; and a call that is refused changes nothing:
 * the class is called through its face with edges, near numbers and far ones, and asked what it counts.
 */
public final class HostileTest {
    private static final int[] EDGES = {
        Integer.MIN_VALUE, -2, -1, 0, 1, 2, 3, 5, 6, 7, 8, 9, 10, 11, 12, 19, 20, 28, 29, 99, 100, 199, 200, 239, 240,
        241, 255, 256, 399, 400, 999, 1000, 100000, 100001, 1439999, 1440000, Integer.MAX_VALUE,
    };
    private static final String LAWS = "t:xa>y+a,y-b;k:!(xb&ya<100)|xc>x+d,y+h;c:1>x-a;l:xa<9&!yb>x+c";

    public static void main(String[] args) throws IllegalAccessException {
        Check check = new Check("HostileTest");
        for (int seed = 0; seed < 600; seed++) {
            Random random = new Random(seed);
            SealBook book = seed % 3 == 0 ? new SealBook() : filled(seed % 3 == 2);
            for (int k = 0; k < 512 && oneCall(check, book, random); k++) {
                check.is("counts", true);
            }
        }
        check.end();
    }

    /** A book with something of everything, or with as much of everything as can be. */
    private static SealBook filled(boolean isFull) {
        SealBook book = new SealBook();
        int many = isFull ? 200 : 2;
        book.now(5000);
        for (int k = 0; k < many; k++) {
            book.thing(k % 256);
            book.kitchen(k % 2, k % 8, k * 7 % 100, k * 13 % 100);
            book.visitor(k % 2, 1 + k % 9);
            book.feast(k % 12, k % 29, 1 + k % 10);
        }
        for (int k = 0; k < many; k++) {
            book.act(k % 4, k % 2, k % 4 < 2 ? 1 - k % 2 : -1, k * 25, k % 3 > 0);
            book.mistake(k % 2, k % 8, k);
            book.lot(k % 2, 100000);
            book.pass(k % 2, k % 2, 1 - k % 2, 1 + k, true);
            book.draw();
        }
        for (int school = 0; school < 2; school++) {
            Texts.law(book, school, school == 1, LAWS);
        }
        return book;
    }

    private static int number(Random random) {
        int dice = random.nextInt(10);
        if (dice == 0) {
            return random.nextInt();
        }
        return dice < 4 ? EDGES[random.nextInt(EDGES.length)] : random.nextInt(dice * dice);
    }

    private static boolean oneCall(Check check, SealBook book, Random random) throws IllegalAccessException {
        Method[] methods = SealBook.class.getMethods();
        Method method = methods[random.nextInt(methods.length)];
        if (method.getDeclaringClass() != SealBook.class) {
            return true;
        }
        Object[] values = new Object[method.getParameterCount()];
        for (int k = 0; k < values.length; k++) {
            if (method.getParameterTypes()[k] == boolean.class) {
                values[k] = random.nextBoolean();
            } else {
                values[k] = number(random);
            }
        }
        long before = counts(book);
        try {
            Object answer = method.invoke(book, values);
            boolean isRefused = answer.equals(false) || answer.equals(-1);
            check.is("refused, nothing counts otherwise: " + method, !isRefused || counts(book) == before);
            return true;
        } catch (InvocationTargetException thrown) {
            check.is(method + java.util.Arrays.toString(values) + " threw " + thrown.getCause(), false);
            return false;
        }
    }

    private static long counts(SealBook book) {
        long all = 0;
        for (int what = 0; what < 14; what++) {
            all = all * 1000003 + book.count(what);
        }
        return all;
    }
}
