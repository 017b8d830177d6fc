import java.math.BigInteger;
import java.util.List;
import java.util.NoSuchElementException;

/** Promises 36 to 38: each sentence that names an edge, by a test of its own. */
public final class NumberEdgesTest {
    private static final Class<IndexOutOfBoundsException> NO_PLACE = IndexOutOfBoundsException.class;
    private static final Class<NoSuchElementException> ABSENT = NoSuchElementException.class;
    private static final int ALL = 127;

    private static final Check check = new Check("NumberEdgesTest");

    public static void main(String[] args) {
        meanWithoutFaces();
        meanOfEach();
        meanIsNotCut();
        shareWithoutFaces();
        shareOfEach();
        shareIsOfFloats();
        checksumOfNothing();
        checksumOfOrder();
        checksumOfEachScene();
        checksumGoesRound();
        checksumChangesNothing();
        check.end();
    }

    private static void meanWithoutFaces() {
        check.sentence("36: Throws NoSuchElementException if it has no faces");
        for (int place = 0; place < Works.PLACES; place++) {
            int each = place;
            Works x = new Works();
            check.refuses("a new one at " + place, x, ABSENT, () -> x.mean(each));
            Works y = Check.worksWith(place, 127);
            y.clear(place);
            check.refuses("a cleared one at " + place, y, ABSENT, () -> y.mean(each));
        }
        Works x = new Works();
        for (int bad : new int[] {-1, 6, Integer.MIN_VALUE, Integer.MAX_VALUE}) {
            check.refuses("no place comes first " + bad, x, NO_PLACE, () -> x.mean(bad));
        }
    }

    private static void meanOfEach() {
        check.sentence("36: the sum of their heights divided by how many they are");
        Works x = new Works();
        x.full(ALL, false, 0);
        x.full(ALL, true, 1);
        x.put(5, 64);
        check.tells("the full", x, 321.0 / 127.0, () -> x.mean(0));
        check.tells("the rim", x, 2.5, () -> x.mean(1));
        check.tells("a lone corner", x, 0.0, () -> x.mean(5));
        x.low(0, 0, 5);
        check.tells("seven corners", x, 0.0, () -> x.mean(5));
    }

    private static void meanIsNotCut() {
        check.sentence("36: both converted to double");
        Works x = Check.worksWith(0, 3);
        check.answers("an edge", 1.0 / 3.0, () -> x.mean(0));
        Works y = Check.worksWith(0, 7);
        check.answers("a triangle", 5.0 / 7.0, () -> y.mean(0));
        check.same("not of floats", false, y.mean(0) == (double) (5.0f / 7.0f));
    }

    private static void shareWithoutFaces() {
        check.sentence("37: 0.0f without faces");
        for (int place = 0; place < Works.PLACES; place++) {
            int each = place;
            Works x = new Works();
            check.tells("a new one at " + place, x, 0.0f, () -> x.share(each));
            Works y = Check.worksWith(place, 127);
            y.clear(place);
            check.tells("a cleared one at " + place, y, 0.0f, () -> y.share(each));
        }
    }

    private static void shareOfEach() {
        check.sentence("37: how many they are divided by how many faces it has");
        Works x = new Works();
        x.full(ALL, false, 0);
        x.full(ALL, true, 1);
        x.put(5, 64);
        check.tells("the full", x, 1.0f / 127.0f, () -> x.share(0));
        check.tells("the rim", x, 7.0f / 126.0f, () -> x.share(1));
        check.tells("a lone corner", x, 1.0f, () -> x.share(5));
        x.low(0, 0, 5);
        check.tells("seven corners", x, 1.0f, () -> x.share(5));
    }

    private static void shareIsOfFloats() {
        check.sentence("37: both converted to float");
        Works x = Check.worksWith(0, 3);
        check.answers("an edge", 1.0f / 3.0f, () -> x.share(0));
        Works y = Check.worksWith(0, 7, 14);
        check.answers("two triangles", 2.0f / 11.0f, () -> y.share(0));
    }

    /** What the document tells, in numbers without a bound, brought into a long only at the end. */
    private static BigInteger told(List<List<Integer>> kept) {
        BigInteger sum = BigInteger.valueOf(17);
        for (List<Integer> faces : kept) {
            sum = next(sum, faces.size());
            for (int face : faces) {
                sum = next(sum, face);
            }
        }
        return sum;
    }

    private static BigInteger next(BigInteger sum, int number) {
        return sum.multiply(BigInteger.valueOf(31)).add(BigInteger.valueOf(number));
    }

    private static void checksumOfNothing() {
        check.sentence("38: from 17 on, it is taken 31 times and added to it: seven times 0");
        check.answers("nothing", 467714439887L, () -> new Works().checksum());
    }

    private static void checksumOfOrder() {
        check.sentence("38: for each place how many, and the number of each, in the order of these; then the row");
        Works x = new Works();
        x.put(0, 2);
        x.put(0, 1);
        x.flip(64);
        x.flip(4);
        List<List<Integer>> due = List.of(List.of(1, 2), List.of(), List.of(), List.of(), List.of(), List.of(),
                List.of(4, 64));
        check.answers("two corners, two in the row", told(due).longValue(), () -> x.checksum());
        for (int place = 0; place < Works.PLACES; place++) {
            Works y = Check.worksWith(place, 64);
            check.answers("a corner at " + place, told(y.kept()).longValue(), () -> y.checksum());
        }
    }

    private static void checksumOfEachScene() {
        check.sentence("38: Tells a number of all that is kept");
        for (Scene scene : Scene.EDGES) {
            Works x = scene.newWorks();
            check.answers(scene.name(), told(x.kept()).longValue(), () -> x.checksum());
        }
        for (Scene scene : Scene.MIDDLE) {
            Works x = scene.newWorks();
            check.answers(scene.name(), told(x.kept()).longValue(), () -> x.checksum());
        }
    }

    private static void checksumGoesRound() {
        check.sentence("38: as a long that goes round");
        int below = 0;
        int above = 0;
        for (int corner = 0; corner < 7; corner++) {
            Works x = Check.worksWith(0, 7, 96);
            x.put(1, 1 << corner);
            x.put(5, 127);
            BigInteger due = told(x.kept());
            check.same("it is too great for a long", true, due.bitLength() > 63);
            check.answers("with the corner " + corner, due.longValue(), () -> x.checksum());
            below += due.longValue() < 0 ? 1 : 0;
            above += due.longValue() > 0 ? 1 : 0;
        }
        check.same("some are below 0", true, below > 0);
        check.same("some are above 0", true, above > 0);
    }

    private static void checksumChangesNothing() {
        check.sentence("38: Returns it, and the same again");
        for (Scene scene : Scene.EDGES) {
            Works x = scene.newWorks();
            long due = x.checksum();
            check.tells(scene.name() + " again", x, due, () -> x.checksum());
        }
    }
}
