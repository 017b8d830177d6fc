import java.util.NoSuchElementException;

/** Promises 39 to 42: the calls that try the theorem. */
public final class TheoremTest {
    private static final int[] NO_PLACES = {-1, 6, 64, Integer.MIN_VALUE, Integer.MAX_VALUE};
    private static final int[] NO_FACES = {0, -1, 128, 200, Integer.MIN_VALUE, Integer.MAX_VALUE};
    private static final int[] NO_CORNERS = {-1, 7, 32, Integer.MIN_VALUE, Integer.MAX_VALUE};
    private static final Class<IndexOutOfBoundsException> NO_PLACE = IndexOutOfBoundsException.class;
    private static final Class<IllegalArgumentException> BAD = IllegalArgumentException.class;
    private static final Class<NoSuchElementException> ABSENT = NoSuchElementException.class;

    private static final Check check = new Check("TheoremTest");

    public static void main(String[] args) {
        promise39IsSound();
        promise40IsTrue();
        promise41FaceIsTrue();
        promise42PairIsTrue();
        oneAfterAnother();
        check.end();
    }

    private static void holdsTrue(String what, Works x, Check.Call call) {
        check.tells(what, x, true, call);
    }

    private static void promise39IsSound() {
        for (int number = 0; number < Samples.SHAPES.length; number++) {
            Works x = Check.worksWith(3, Samples.SHAPES[number]);
            for (int[] faces : Samples.ROWS) {
                x.drop();
                for (int face : faces) {
                    x.flip(face);
                }
                holdsTrue("sound " + number, x, () -> x.isSound(3));
                holdsTrue("sound none " + number, x, () -> x.isSound(0));
            }
            for (int bad : NO_PLACES) {
                check.refuses("sound " + bad, x, NO_PLACE, () -> x.isSound(bad));
            }
        }
    }

    private static void promise40IsTrue() {
        for (int number = 0; number < Samples.SHAPES.length; number++) {
            Works x = Check.worksWith(5, Samples.SHAPES[number]);
            for (int one = 0; one < 7; one++) {
                for (int other = 0; other < 7; other++) {
                    int a = one;
                    int b = other;
                    holdsTrue("true " + number + " " + a + " " + b, x, () -> x.isTrue(5, a, b));
                }
            }
        }
        Works x = Check.worksWith(0, 7);
        for (int bad : NO_PLACES) {
            check.refuses("true at " + bad, x, NO_PLACE, () -> x.isTrue(bad, 7, 7));
        }
        for (int bad : NO_CORNERS) {
            check.refuses("true of " + bad, x, BAD, () -> x.isTrue(0, bad, 0));
            check.refuses("true of 0 and " + bad, x, BAD, () -> x.isTrue(0, 0, bad));
        }
    }

    private static void promise41FaceIsTrue() {
        for (int number = 0; number < Samples.SHAPES.length; number++) {
            for (int face = 1; face <= 127; face++) {
                Works x = Check.worksWith(4, Samples.SHAPES[number]);
                int each = face;
                if (x.has(4, face)) {
                    holdsTrue("true " + number + " of " + face, x, () -> x.faceIsTrue(4, each));
                } else {
                    check.refuses("true " + number + " of " + face, x, ABSENT, () -> x.faceIsTrue(4, each));
                }
            }
            Works y = Check.worksWith(4, Samples.SHAPES[number]);
            for (int bad : NO_FACES) {
                check.refuses("true " + number + " of " + bad, y, BAD, () -> y.faceIsTrue(4, bad));
            }
            for (int bad : NO_PLACES) {
                check.refuses("true at " + bad, y, NO_PLACE, () -> y.faceIsTrue(bad, 0));
            }
        }
    }

    private static void promise42PairIsTrue() {
        for (int one = 0; one < Samples.SHAPES.length; one++) {
            for (int other = 0; other < Samples.SHAPES.length; other++) {
                Works x = Check.worksWith(0, Samples.SHAPES[one]);
                Check.putAll(x, 5, Samples.SHAPES[other]);
                holdsTrue("true " + one + " and " + other, x, () -> x.pairIsTrue(0, 5));
                holdsTrue("true " + one + " with itself", x, () -> x.pairIsTrue(0, 0));
            }
        }
        Works x = Check.worksWith(0, 1);
        for (int bad : NO_PLACES) {
            check.refuses("true of " + bad, x, NO_PLACE, () -> x.pairIsTrue(bad, 0));
            check.refuses("true with " + bad, x, NO_PLACE, () -> x.pairIsTrue(0, bad));
        }
    }

    /** What one call leaves behind for itself must not reach the next one. */
    private static void oneAfterAnother() {
        for (int number = 0; number < Samples.SHAPES.length; number++) {
            Works x = new Works();
            trySeveralTimes(x, Samples.SHAPES[number]);
            trySeveralTimes(x, Samples.SHAPES[(number + 7) % Samples.SHAPES.length]);
        }
    }

    private static void trySeveralTimes(Works x, int[] greatest) {
        x.clear(2);
        Check.putAll(x, 2, greatest);
        Check.setRow(x, Samples.ROWS[x.size(2) % Samples.ROWS.length]);
        for (int round = 0; round < 3; round++) {
            holdsTrue("true", x, () -> x.isTrue(2, 1, 5));
            holdsTrue("sound", x, () -> x.isSound(2));
            holdsTrue("true with itself", x, () -> x.pairIsTrue(2, 2));
            holdsTrue("sound again", x, () -> x.isSound(2));
            if (x.greatest(2) > 0) {
                holdsTrue("true of a face", x, () -> x.faceIsTrue(2, x.greatestAt(2, 0)));
            }
            holdsTrue("true with none", x, () -> x.pairIsTrue(2, 1));
        }
    }
}
