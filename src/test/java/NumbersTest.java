import java.util.NoSuchElementException;

/** Promises 36 to 38: the numbers told of all that is kept. */
public final class NumbersTest {
    private static final int[] NO_PLACES = {-1, 6, 64, Integer.MIN_VALUE, Integer.MAX_VALUE};
    private static final Class<IndexOutOfBoundsException> NO_PLACE = IndexOutOfBoundsException.class;

    private static final Check check = new Check("NumbersTest");

    public static void main(String[] args) {
        promise36Mean();
        promise37Share();
        promise38Checksum();
        check.end();
    }

    private static void promise36Mean() {
        Works x = Check.worksWith(0, 7, 14, 24);
        check.answers("mean", 10.0 / 13.0, () -> x.mean(0));
        check.refuses("mean of none", x, NoSuchElementException.class, () -> x.mean(1));
        x.put(1, 64);
        check.answers("mean of a corner", 0.0, () -> x.mean(1));
        x.put(1, 96);
        check.answers("mean of an edge", 1.0 / 3.0, () -> x.mean(1));
        x.full(127, false, 2);
        check.answers("mean of all", 321.0 / 127.0, () -> x.mean(2));
        for (int bad : NO_PLACES) {
            check.refuses("mean of " + bad, x, NO_PLACE, () -> x.mean(bad));
        }
    }

    private static void promise37Share() {
        Works x = Check.worksWith(0, 7, 14, 24);
        check.answers("share", 3.0f / 13.0f, () -> x.share(0));
        check.answers("share of none", 0.0f, () -> x.share(1));
        x.put(1, 64);
        check.answers("share of a corner", 1.0f, () -> x.share(1));
        x.full(127, true, 2);
        check.answers("share of the rim", 7.0f / 126.0f, () -> x.share(2));
        x.full(127, false, 2);
        check.answers("share of all", 1.0f / 127.0f, () -> x.share(2));
        for (int bad : NO_PLACES) {
            check.refuses("share of " + bad, x, NO_PLACE, () -> x.share(bad));
        }
    }

    private static long told(long... numbers) {
        long sum = 17;
        for (long number : numbers) {
            sum = sum * 31 + number;
        }
        return sum;
    }

    private static void promise38Checksum() {
        Works x = new Works();
        check.answers("of nothing", told(0, 0, 0, 0, 0, 0, 0), () -> x.checksum());
        x.flip(66);
        x.flip(3);
        check.answers("of a row", told(0, 0, 0, 0, 0, 0, 2, 3, 66), () -> x.checksum());
        x.put(0, 64);
        x.put(5, 3);
        check.answers("of shapes and a row", told(1, 64, 0, 0, 0, 0, 3, 1, 2, 3, 2, 3, 66), () -> x.checksum());
        check.answers("it changes nothing", told(1, 64, 0, 0, 0, 0, 3, 1, 2, 3, 2, 3, 66), () -> x.checksum());
        x.put(2, 80);
        x.drop();
        check.answers("of shapes", told(1, 64, 0, 3, 16, 64, 80, 0, 0, 3, 1, 2, 3, 0), () -> x.checksum());
        long sum = 17;
        for (int place = 0; place < 6; place++) {
            x.full(127, false, place);
            sum = sum * 31 + 127;
            for (int face = 1; face <= 127; face++) {
                sum = sum * 31 + face;
            }
        }
        check.answers("of all", sum * 31, () -> x.checksum());
    }
}
