import java.util.NoSuchElementException;

/** Promises 25 to 29: pieces and holes. */
public final class HolesTest {
    private static final int[] NO_PLACES = {-1, 6, 64, Integer.MIN_VALUE, Integer.MAX_VALUE};
    private static final int[] NO_CORNERS = {-1, 7, 32, Integer.MIN_VALUE, Integer.MAX_VALUE};
    private static final Class<IndexOutOfBoundsException> NO_PLACE = IndexOutOfBoundsException.class;
    private static final Class<IllegalArgumentException> BAD = IllegalArgumentException.class;
    private static final Class<NoSuchElementException> ABSENT = NoSuchElementException.class;

    /** The plane that turns on itself: told by odd and even, it has holes of the heights 1 and 2. */
    private static final int[] TURNED_PLANE = {7, 11, 21, 41, 49, 38, 26, 50, 28, 44};
    private static final int[] RING_SKIN = {11, 22, 44, 88, 49, 98, 69, 13, 26, 52, 104, 81, 35, 70};

    private static final Check check = new Check("HolesTest");

    public static void main(String[] args) {
        promise25Pieces();
        promise26AreJoined();
        promise27Free();
        promise28Holes();
        promise28HolesOfRims();
        promise28HolesOfSurfaces();
        promise29Signed();
        check.end();
    }

    private static void promise25Pieces() {
        Works x = Check.worksWith(0, 3, 6, 24, 64);
        check.answers("pieces", 3, () -> x.pieces(0));
        check.answers("pieces of none", 0, () -> x.pieces(1));
        x.full(127, false, 1);
        check.answers("pieces of all", 1, () -> x.pieces(1));
        x.low(1, 0, 2);
        check.answers("pieces of corners", 7, () -> x.pieces(2));
        Check.putAll(x, 3, 65, 96, 34, 18, 20, 12);
        check.answers("pieces of a path", 1, () -> x.pieces(3));
        x.take(3, 18);
        check.answers("pieces of two paths", 2, () -> x.pieces(3));
        x.full(3, true, 4);
        check.answers("pieces of a rim of two", 2, () -> x.pieces(4));
        for (int bad : NO_PLACES) {
            check.refuses("pieces of " + bad, x, NO_PLACE, () -> x.pieces(bad));
        }
    }

    private static void promise26AreJoined() {
        Works x = Check.worksWith(0, 65, 96, 34, 20);
        int[] pieceOf = {1, 1, 2, 0, 2, 1, 1};
        for (int one = 0; one < 7; one++) {
            for (int other = 0; other < 7; other++) {
                int a = one;
                int b = other;
                if (one == 3 || other == 3) {
                    check.refuses("joined " + a + " " + b, x, ABSENT, () -> x.areJoined(0, a, b));
                } else {
                    boolean due = pieceOf[one] == pieceOf[other];
                    check.answers("joined " + a + " " + b, due, () -> x.areJoined(0, a, b));
                }
            }
        }
        check.refuses("joined in none", x, ABSENT, () -> x.areJoined(1, 0, 0));
        for (int bad : NO_PLACES) {
            check.refuses("joined at " + bad, x, NO_PLACE, () -> x.areJoined(bad, 7, 0));
        }
        for (int bad : NO_CORNERS) {
            check.refuses("joined " + bad, x, BAD, () -> x.areJoined(0, bad, 3));
            check.refuses("joined with " + bad, x, BAD, () -> x.areJoined(0, 3, bad));
        }
    }

    private static void promise27Free() {
        Works x = Check.worksWith(0, 7, 14, 24, 64);
        x.full(127, false, 1);
        int[] due = {4, 2, 0, 0, 0, 0};
        int[] dueAll = {6, 15, 20, 15, 6, 1};
        for (int height = 1; height < 7; height++) {
            int each = height;
            check.answers("free of " + height, due[height - 1], () -> x.free(0, each));
            check.answers("free of all of " + height, dueAll[height - 1], () -> x.free(1, each));
            check.answers("free of none of " + height, 0, () -> x.free(5, each));
        }
        x.full(15, true, 2);
        check.answers("free of a round", 3, () -> x.free(2, 2));
        for (int bad : NO_PLACES) {
            check.refuses("free at " + bad, x, NO_PLACE, () -> x.free(bad, 0));
        }
        for (int bad : new int[] {0, -1, 7, Integer.MIN_VALUE, Integer.MAX_VALUE}) {
            check.refuses("free of " + bad, x, BAD, () -> x.free(0, bad));
        }
    }

    private static void holes(Works x, String what, int place, int... due) {
        for (int height = 0; height < 7; height++) {
            int each = height;
            int wanted = height < due.length ? due[height] : 0;
            check.answers("holes of " + what + " of " + height, wanted, () -> x.holes(place, each));
        }
    }

    private static void promise28Holes() {
        Works x = new Works();
        holes(x, "none", 0);
        x.put(0, 64);
        holes(x, "a corner", 0);
        x.put(0, 32);
        holes(x, "two corners", 0, 1);
        x.full(127, false, 0);
        holes(x, "all", 0);
        int[] due = {6, 15, 20, 15, 6, 1, 0};
        for (int height = 0; height < 7; height++) {
            x.low(0, height, 1);
            int[] wanted = new int[7];
            wanted[height] = due[height];
            holes(x, "all up to " + height, 1, wanted);
        }
        Check.putAll(x, 2, 3, 6, 5, 24, 48, 40, 64);
        holes(x, "two rounds and a corner", 2, 2, 2);
        x.put(2, 7);
        holes(x, "one of them filled", 2, 2, 1);
        for (int bad : NO_PLACES) {
            check.refuses("holes at " + bad, x, NO_PLACE, () -> x.holes(bad, -1));
        }
        for (int bad : NO_CORNERS) {
            check.refuses("holes of " + bad, x, BAD, () -> x.holes(0, bad));
        }
    }

    private static void promise28HolesOfRims() {
        for (int corners = 1; corners <= 127; corners++) {
            Works x = new Works();
            int many = Integer.bitCount(corners);
            x.full(corners, true, 0);
            int[] due = new int[7];
            if (many > 1) {
                due[many - 2] = 1;
            }
            holes(x, "the rim of " + corners, 0, due);
        }
    }

    private static void promise28HolesOfSurfaces() {
        Works x = new Works();
        Check.putAll(x, 0, RING_SKIN);
        check.same("edges of a ring's skin", 21, x.faces(0, 1));
        check.same("triangles of a ring's skin", 14, x.faces(0, 2));
        holes(x, "a ring's skin", 0, 0, 2, 1);
        Works y = new Works();
        Check.putAll(y, 0, TURNED_PLANE);
        check.same("edges of the plane", 15, y.faces(0, 1));
        check.same("triangles of the plane", 10, y.faces(0, 2));
        holes(y, "the plane that turns on itself", 0, 0, 1, 1);
        check.answers("free edges of it", 5, () -> y.free(0, 1));
        check.answers("free triangles of it", 9, () -> y.free(0, 2));
    }

    private static void promise29Signed() {
        Works x = Check.worksWith(0, 7, 14, 24, 64);
        check.answers("signed", 2, () -> x.signed(0));
        check.answers("signed of none", 0, () -> x.signed(1));
        x.full(127, false, 2);
        check.answers("signed of all", 1, () -> x.signed(2));
        int[] due = {7, -14, 21, -14, 7, 0, 1};
        for (int height = 0; height < 7; height++) {
            x.low(2, height, 3);
            check.answers("signed up to " + height, due[height], () -> x.signed(3));
        }
        for (int bad : NO_PLACES) {
            check.refuses("signed of " + bad, x, NO_PLACE, () -> x.signed(bad));
        }
    }
}
