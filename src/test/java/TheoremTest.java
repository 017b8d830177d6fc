import java.util.NoSuchElementException;

/** Promises 39 to 42: the calls that try the theorem. */
public final class TheoremTest {
    private static final int[] NO_PLACES = {-1, 6, 64, Integer.MIN_VALUE, Integer.MAX_VALUE};
    private static final int[] NO_FACES = {0, -1, 128, 200, Integer.MIN_VALUE, Integer.MAX_VALUE};
    private static final int[] NO_CORNERS = {-1, 7, 32, Integer.MIN_VALUE, Integer.MAX_VALUE};
    private static final Class<IndexOutOfBoundsException> NO_PLACE = IndexOutOfBoundsException.class;
    private static final Class<IllegalArgumentException> BAD = IllegalArgumentException.class;
    private static final Class<NoSuchElementException> ABSENT = NoSuchElementException.class;

    /** The greatest faces of shapes: none, few, full ones, rims, surfaces, all that there is. */
    private static final int[][] SHAPES = {
        {}, {1}, {64}, {1, 2}, {1, 64}, {3}, {96}, {1, 2, 4, 8, 16, 32, 64}, {3, 6, 5}, {7}, {7, 14, 24, 64},
        {7, 11, 13, 14}, {15}, {15, 112}, {3, 6, 5, 20, 48, 36}, {63, 64}, {63}, {127}, {31, 96},
        {7, 11, 21, 41, 49, 38, 26, 50, 28, 44},
        {11, 22, 44, 88, 49, 98, 69, 13, 26, 52, 104, 81, 35, 70},
        {63, 95, 111, 119, 123, 125, 126}, {62, 94, 110, 118, 122, 124}, {127 - 3, 127 - 12, 127 - 48},
    };

    private static final int[][] ROWS = {
        {}, {1}, {64}, {16, 32}, {2, 64}, {1, 2}, {1, 2, 4}, {1, 4, 8, 64},
        {3}, {3, 5, 6}, {3, 6, 12, 9}, {7}, {7, 11, 13, 14}, {15}, {127},
        {63, 95, 111, 119, 123, 125, 126}, {11, 22, 44, 88, 49, 98, 69, 13, 26, 52, 104, 81, 35, 70},
    };

    private static final Check check = new Check("TheoremTest");

    public static void main(String[] args) {
        promise39IsSound();
        promise40IsTrue();
        promise41FaceIsTrue();
        promise42PairIsTrue();
        oneAfterAnother();
        check.end();
    }

    /** The call must answer that it is so, and change nothing. */
    private static void holdsTrue(String what, Holeworks x, Check.Call call) {
        long before = x.checksum();
        check.answers(what, true, call);
        check.same(what + " changes nothing", before, x.checksum());
    }

    private static void promise39IsSound() {
        for (int number = 0; number < SHAPES.length; number++) {
            Holeworks x = Check.worksWith(3, SHAPES[number]);
            for (int[] faces : ROWS) {
                x.drop();
                for (int face : faces) {
                    x.flip(face);
                }
                holdsTrue("sound " + number, x, () -> x.isSound(3));
                holdsTrue("sound none " + number, x, () -> x.isSound(0));
            }
            for (int bad : NO_PLACES) {
                check.refuses("sound " + bad, x, NO_PLACE, () -> x.isSound(bad));
            }
        }
    }

    private static void promise40IsTrue() {
        for (int number = 0; number < SHAPES.length; number++) {
            Holeworks x = Check.worksWith(5, SHAPES[number]);
            for (int one = 0; one < 7; one++) {
                for (int other = 0; other < 7; other++) {
                    int a = one;
                    int b = other;
                    holdsTrue("true " + number + " " + a + " " + b, x, () -> x.isTrue(5, a, b));
                }
            }
        }
        Holeworks x = Check.worksWith(0, 7);
        for (int bad : NO_PLACES) {
            check.refuses("true at " + bad, x, NO_PLACE, () -> x.isTrue(bad, 7, 7));
        }
        for (int bad : NO_CORNERS) {
            check.refuses("true of " + bad, x, BAD, () -> x.isTrue(0, bad, 0));
            check.refuses("true of 0 and " + bad, x, BAD, () -> x.isTrue(0, 0, bad));
        }
    }

    private static void promise41FaceIsTrue() {
        for (int number = 0; number < SHAPES.length; number++) {
            Holeworks x = Check.worksWith(4, SHAPES[number]);
            for (int face = 1; face <= 127; face++) {
                int each = face;
                if (x.has(4, face)) {
                    holdsTrue("true " + number + " of " + face, x, () -> x.faceIsTrue(4, each));
                } else {
                    check.refuses("true " + number + " of " + face, x, ABSENT, () -> x.faceIsTrue(4, each));
                }
            }
            for (int bad : NO_FACES) {
                check.refuses("true " + number + " of " + bad, x, BAD, () -> x.faceIsTrue(4, bad));
            }
            for (int bad : NO_PLACES) {
                check.refuses("true at " + bad, x, NO_PLACE, () -> x.faceIsTrue(bad, 0));
            }
        }
    }

    private static void promise42PairIsTrue() {
        for (int one = 0; one < SHAPES.length; one++) {
            for (int other = 0; other < SHAPES.length; other++) {
                Holeworks x = Check.worksWith(0, SHAPES[one]);
                Check.putAll(x, 5, SHAPES[other]);
                holdsTrue("true " + one + " and " + other, x, () -> x.pairIsTrue(0, 5));
                holdsTrue("true " + one + " with itself", x, () -> x.pairIsTrue(0, 0));
            }
        }
        Holeworks x = Check.worksWith(0, 1);
        for (int bad : NO_PLACES) {
            check.refuses("true of " + bad, x, NO_PLACE, () -> x.pairIsTrue(bad, 0));
            check.refuses("true with " + bad, x, NO_PLACE, () -> x.pairIsTrue(0, bad));
        }
    }

    /** What one call leaves in its scratch sets must not reach the next one. */
    private static void oneAfterAnother() {
        Holeworks x = new Holeworks();
        for (int[] greatest : SHAPES) {
            x.clear(2);
            Check.putAll(x, 2, greatest);
            x.drop();
            for (int face : ROWS[x.size(2) % ROWS.length]) {
                x.flip(face);
            }
            for (int round = 0; round < 3; round++) {
                holdsTrue("true", x, () -> x.isTrue(2, 1, 5));
                holdsTrue("sound", x, () -> x.isSound(2));
                holdsTrue("true with itself", x, () -> x.pairIsTrue(2, 2));
                holdsTrue("sound again", x, () -> x.isSound(2));
                if (x.greatest(2) > 0) {
                    holdsTrue("true of a face", x, () -> x.faceIsTrue(2, x.greatestAt(2, 0)));
                }
                holdsTrue("true with none", x, () -> x.pairIsTrue(2, 1));
            }
        }
    }
}
