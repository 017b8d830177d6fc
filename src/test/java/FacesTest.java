import java.util.NoSuchElementException;

/** Promises 16 to 24: looking at the faces of shapes. */
public final class FacesTest {
    private static final int[] NO_PLACES = {-1, 6, 64, Integer.MIN_VALUE, Integer.MAX_VALUE};
    private static final int[] NO_FACES = {0, -1, 128, 200, Integer.MIN_VALUE, Integer.MAX_VALUE};
    private static final int[] NO_HEIGHTS = {-1, 7, Integer.MIN_VALUE, Integer.MAX_VALUE};
    private static final Class<IndexOutOfBoundsException> NO_PLACE = IndexOutOfBoundsException.class;
    private static final Class<IllegalArgumentException> BAD = IllegalArgumentException.class;
    private static final Class<NoSuchElementException> ABSENT = NoSuchElementException.class;

    private static final Check check = new Check("FacesTest");

    public static void main(String[] args) {
        promise16Has();
        promise17Size();
        promise18Faces();
        promise19Corners();
        promise20Over();
        promise21Greatest();
        promise22GreatestAt();
        promise23IsSame();
        promise24Contains();
        check.end();
    }

    private static void promise16Has() {
        Works x = Check.worksWith(2, 82, 1);
        for (int face = 1; face <= 127; face++) {
            int each = face;
            boolean due = face == 1 || (face & 82) == face;
            check.answers("has " + face, due, () -> x.has(2, each));
            check.answers("none has " + face, false, () -> x.has(0, each));
        }
        for (int bad : NO_PLACES) {
            check.refuses("has at " + bad, x, NO_PLACE, () -> x.has(bad, 0));
        }
        for (int bad : NO_FACES) {
            check.refuses("has " + bad, x, BAD, () -> x.has(2, bad));
        }
    }

    private static void promise17Size() {
        Works x = Check.worksWith(5, 96, 3);
        check.answers("size", 6, () -> x.size(5));
        check.answers("size of none", 0, () -> x.size(4));
        x.put(0, 127);
        check.answers("size of all", 127, () -> x.size(0));
        for (int bad : NO_PLACES) {
            check.refuses("size of " + bad, x, NO_PLACE, () -> x.size(bad));
        }
    }

    private static void promise18Faces() {
        Works x = Check.worksWith(0, 15, 112, 6);
        x.full(127, false, 1);
        int[] due = {7, 9, 5, 1, 0, 0, 0};
        int[] dueAll = {7, 21, 35, 35, 21, 7, 1};
        for (int height = 0; height < 7; height++) {
            int each = height;
            check.answers("faces of " + height, due[height], () -> x.faces(0, each));
            check.answers("all faces of " + height, dueAll[height], () -> x.faces(1, each));
            check.answers("no faces of " + height, 0, () -> x.faces(2, each));
        }
        for (int bad : NO_PLACES) {
            check.refuses("faces at " + bad, x, NO_PLACE, () -> x.faces(bad, 7));
        }
        for (int bad : NO_HEIGHTS) {
            check.refuses("faces of " + bad, x, BAD, () -> x.faces(0, bad));
        }
    }

    private static void promise19Corners() {
        Works x = Check.worksWith(0, 3, 24, 64);
        check.answers("corners", 91, () -> x.corners(0));
        check.answers("corners of none", 0, () -> x.corners(1));
        x.full(127, true, 2);
        check.answers("all corners", 127, () -> x.corners(2));
        x.take(2, 16);
        check.answers("all corners but one", 111, () -> x.corners(2));
        for (int bad : NO_PLACES) {
            check.refuses("corners of " + bad, x, NO_PLACE, () -> x.corners(bad));
        }
    }

    private static void promise20Over() {
        Works x = Check.worksWith(0, 7, 14, 64);
        check.answers("over an outer corner", 3, () -> x.over(0, 1));
        check.answers("over an inner corner", 5, () -> x.over(0, 2));
        check.answers("over an inner edge", 2, () -> x.over(0, 6));
        check.answers("over an outer edge", 1, () -> x.over(0, 3));
        check.answers("over a greatest", 0, () -> x.over(0, 14));
        check.answers("over a lone corner", 0, () -> x.over(0, 64));
        x.put(1, 127);
        check.answers("over one of all", 63, () -> x.over(1, 64));
        check.answers("over all", 0, () -> x.over(1, 127));
        for (int bad : NO_PLACES) {
            check.refuses("over at " + bad, x, NO_PLACE, () -> x.over(bad, 0));
        }
        for (int bad : NO_FACES) {
            check.refuses("over " + bad, x, BAD, () -> x.over(0, bad));
        }
        check.refuses("over an absent", x, ABSENT, () -> x.over(0, 9));
        check.refuses("over one of none", x, ABSENT, () -> x.over(2, 1));
    }

    private static void promise21Greatest() {
        Works x = Check.worksWith(0, 7, 14, 24, 64);
        check.answers("greatest", 4, () -> x.greatest(0));
        check.answers("greatest of none", 0, () -> x.greatest(1));
        x.put(1, 127);
        check.answers("greatest of all", 1, () -> x.greatest(1));
        x.full(127, true, 2);
        check.answers("greatest of the rim", 7, () -> x.greatest(2));
        x.low(2, 2, 3);
        check.answers("greatest of the triangles", 35, () -> x.greatest(3));
        for (int bad : NO_PLACES) {
            check.refuses("greatest of " + bad, x, NO_PLACE, () -> x.greatest(bad));
        }
    }

    private static void promise22GreatestAt() {
        Works x = Check.worksWith(0, 96, 64, 14, 24, 7);
        int[] due = {7, 14, 24, 96};
        for (int index = 0; index < due.length; index++) {
            int each = index;
            check.answers("greatest at " + index, due[index], () -> x.greatestAt(0, each));
        }
        x.full(127, true, 2);
        int[] dueRim = {63, 95, 111, 119, 123, 125, 126};
        for (int index = 0; index < dueRim.length; index++) {
            int each = index;
            check.answers("greatest of the rim at " + index, dueRim[index], () -> x.greatestAt(2, each));
        }
        for (int bad : new int[] {-1, 4, 127, Integer.MIN_VALUE, Integer.MAX_VALUE}) {
            check.refuses("greatest at " + bad, x, NO_PLACE, () -> x.greatestAt(0, bad));
        }
        check.refuses("greatest of the rim at 7", x, NO_PLACE, () -> x.greatestAt(2, 7));
        check.refuses("greatest of none", x, NO_PLACE, () -> x.greatestAt(1, 0));
        for (int bad : NO_PLACES) {
            check.refuses("greatest at place " + bad, x, NO_PLACE, () -> x.greatestAt(bad, 0));
        }
    }

    private static void promise23IsSame() {
        Works x = Check.worksWith(0, 7, 64);
        Check.putAll(x, 1, 64, 6, 5, 3);
        check.answers("not the same", false, () -> x.isSame(0, 1));
        check.answers("not the same, turned", false, () -> x.isSame(1, 0));
        x.put(1, 7);
        check.answers("the same", true, () -> x.isSame(0, 1));
        check.answers("itself", true, () -> x.isSame(0, 0));
        check.answers("none", true, () -> x.isSame(4, 5));
        check.answers("none and some", false, () -> x.isSame(4, 0));
        x.put(4, 1);
        x.put(5, 64);
        check.answers("as many", false, () -> x.isSame(4, 5));
        for (int bad : NO_PLACES) {
            check.refuses("same " + bad, x, NO_PLACE, () -> x.isSame(bad, 0));
            check.refuses("same as " + bad, x, NO_PLACE, () -> x.isSame(0, bad));
        }
    }

    private static void promise24Contains() {
        Works x = Check.worksWith(0, 7, 96);
        Check.putAll(x, 1, 3, 64);
        check.answers("contains", true, () -> x.contains(0, 1));
        check.answers("contains, turned", false, () -> x.contains(1, 0));
        check.answers("itself", true, () -> x.contains(0, 0));
        check.answers("none", true, () -> x.contains(0, 5));
        check.answers("none in none", true, () -> x.contains(4, 5));
        check.answers("some in none", false, () -> x.contains(5, 1));
        x.put(1, 8);
        check.answers("contains no more", false, () -> x.contains(0, 1));
        Check.putAll(x, 2, 80);
        check.answers("an upper one less", false, () -> x.contains(0, 2));
        for (int bad : NO_PLACES) {
            check.refuses("contains at " + bad, x, NO_PLACE, () -> x.contains(bad, 0));
            check.refuses("contains those at " + bad, x, NO_PLACE, () -> x.contains(0, bad));
        }
    }
}
