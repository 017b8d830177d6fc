import java.util.List;

/** Promises 30 to 35: the row. */
public final class RowTest {
    private static final int[] NO_PLACES = {-1, 6, 64, Integer.MIN_VALUE, Integer.MAX_VALUE};
    private static final int[] NO_FACES = {0, -1, 128, 200, Integer.MIN_VALUE, Integer.MAX_VALUE};
    private static final Class<IndexOutOfBoundsException> NO_PLACE = IndexOutOfBoundsException.class;
    private static final Class<IllegalArgumentException> BAD = IllegalArgumentException.class;
    private static final Class<IllegalStateException> STATE = IllegalStateException.class;

    private static final Check check = new Check("RowTest");

    public static void main(String[] args) {
        promise30Flip();
        promise31Border();
        promise31BorderOfEachFace();
        promise32Drop();
        promise33RowAt();
        promise34IsRound();
        promise35Fills();
        promise35FillsByCorners();
        promise35FillsAcrossHeights();
        check.end();
    }

    private static void row(Works x, String what, Integer... due) {
        check.same(what, List.of(due), x.rowFaces());
    }

    private static void promise30Flip() {
        Works x = new Works();
        check.answers("flip", 1, () -> x.flip(96));
        check.answers("flip a second", 2, () -> x.flip(3));
        check.answers("flip a third", 3, () -> x.flip(66));
        row(x, "three", 3, 66, 96);
        check.answers("flip one out", 2, () -> x.flip(66));
        row(x, "two", 3, 96);
        for (int face = 1; face <= 127; face++) {
            int each = face;
            if (Integer.bitCount(face) != 2) {
                check.refuses("flip " + face + " to edges", x, STATE, () -> x.flip(each));
            }
        }
        for (int bad : NO_FACES) {
            check.refuses("flip " + bad, x, BAD, () -> x.flip(bad));
        }
        x.flip(3);
        check.answers("flip the last one out", 0, () -> x.flip(96));
        row(x, "none");
        check.answers("flip of another height", 1, () -> x.flip(127));
        check.answers("flip it out", 0, () -> x.flip(127));
        check.answers("flip a corner", 1, () -> x.flip(64));
    }

    private static void promise31Border() {
        Works x = new Works();
        check.answers("border of none", 0, () -> x.border());
        Check.setRow(x, 7, 14);
        check.answers("border of two triangles", 4, () -> x.border());
        row(x, "border of two triangles", 3, 5, 10, 12);
        check.answers("border of a border", 0, () -> x.border());
        row(x, "border of a border");
        Check.setRow(x, 3, 6, 12, 96);
        check.answers("border of a path", 4, () -> x.border());
        row(x, "border of a path", 1, 8, 32, 64);
        check.answers("border of corners", 0, () -> x.border());
        check.answers("a face of another height", 1, () -> x.flip(127));
        check.answers("border of the greatest", 7, () -> x.border());
        row(x, "border of the greatest", 63, 95, 111, 119, 123, 125, 126);
        Check.setRow(x, 11, 14, 7, 13);
        check.answers("border of a round", 0, () -> x.border());
    }

    private static void promise31BorderOfEachFace() {
        Works x = new Works();
        for (int face = 1; face <= 127; face++) {
            Check.setRow(x, face);
            int corners = Integer.bitCount(face);
            int due = corners == 1 ? 0 : corners;
            check.answers("border of " + face, due, () -> x.border());
            int previous = 0;
            for (int part : x.rowFaces()) {
                boolean isPart = (part & face) == part && Integer.bitCount(part) == corners - 1;
                check.same("part " + part + " of " + face, true, isPart && part > previous);
                previous = part;
            }
        }
    }

    private static void promise32Drop() {
        Works x = new Works();
        check.answers("drop of none", 0, () -> x.drop());
        Check.setRow(x, 7, 112, 11);
        x.put(0, 7);
        check.answers("drop", 3, () -> x.drop());
        row(x, "dropped");
        check.same("the shape stays", 7, x.size(0));
        check.answers("drop again", 0, () -> x.drop());
        check.answers("flip of any height", 1, () -> x.flip(1));
    }

    private static void promise33RowAt() {
        Works x = new Works();
        check.refuses("none at 0", x, NO_PLACE, () -> x.rowAt(0));
        Check.setRow(x, 104, 7, 67, 14);
        int[] due = {7, 14, 67, 104};
        for (int index = 0; index < due.length; index++) {
            int each = index;
            check.answers("row at " + index, due[index], () -> x.rowAt(each));
        }
        for (int bad : new int[] {-1, 4, 127, Integer.MIN_VALUE, Integer.MAX_VALUE}) {
            check.refuses("row at " + bad, x, NO_PLACE, () -> x.rowAt(bad));
        }
    }

    private static void promise34IsRound() {
        Works x = new Works();
        check.answers("none is round", true, () -> x.isRound());
        Check.setRow(x, 3, 6);
        check.answers("a path is not", false, () -> x.isRound());
        x.flip(5);
        check.answers("a triangle's border is", true, () -> x.isRound());
        row(x, "it stays", 3, 5, 6);
        Check.setRow(x, 4);
        check.answers("a corner is", true, () -> x.isRound());
        x.flip(64);
        check.answers("two corners are", true, () -> x.isRound());
        Check.setRow(x, 127);
        check.answers("the greatest is not", false, () -> x.isRound());
        x.border();
        check.answers("its border is", true, () -> x.isRound());
        x.flip(63);
        check.answers("without one it is not", false, () -> x.isRound());
        Check.setRow(x, 3, 12);
        check.answers("two edges are not", false, () -> x.isRound());
    }

    private static void promise35Fills() {
        Works x = Check.worksWith(0, 3, 6, 12, 9, 5);
        check.answers("none fills", true, () -> x.fills(0));
        check.answers("none fills in none", true, () -> x.fills(5));
        Check.setRow(x, 3, 6, 5);
        check.answers("round, not filled", false, () -> x.fills(0));
        x.put(0, 7);
        check.answers("filled", true, () -> x.fills(0));
        row(x, "it stays", 3, 5, 6);
        Check.setRow(x, 3, 6, 12, 9);
        check.answers("round two triangles, one there", false, () -> x.fills(0));
        x.put(0, 13);
        check.answers("round two triangles", true, () -> x.fills(0));
        Check.setRow(x, 3);
        check.answers("not round", false, () -> x.fills(0));
        check.refuses("a face of the row is absent", x, STATE, () -> x.fills(1));
        x.flip(10);
        check.refuses("one of two is absent", x, STATE, () -> x.fills(0));
        for (int bad : NO_PLACES) {
            check.refuses("fills at " + bad, x, NO_PLACE, () -> x.fills(bad));
        }
    }

    private static void promise35FillsByCorners() {
        Works x = Check.worksWith(0, 3, 6, 24, 64);
        Check.setRow(x, 1);
        check.answers("one corner", false, () -> x.fills(0));
        x.flip(4);
        check.answers("two of a piece", true, () -> x.fills(0));
        x.flip(8);
        x.flip(2);
        check.answers("three and one", false, () -> x.fills(0));
        x.flip(1);
        x.flip(16);
        check.answers("two and two", true, () -> x.fills(0));
        Check.setRow(x, 1, 64);
        check.answers("two of two pieces", false, () -> x.fills(0));
        Check.setRow(x, 1, 32);
        check.refuses("a corner that is not there", x, STATE, () -> x.fills(0));
    }

    private static void promise35FillsAcrossHeights() {
        for (int corners = 3; corners <= 127; corners++) {
            Works x = new Works();
            int many = Integer.bitCount(corners);
            Check.setRow(x, corners);
            x.full(corners, false, 0);
            check.answers("the greatest of " + corners, false, () -> x.fills(0));
            if (many > 1) {
                x.border();
                check.answers("the rim in the full " + corners, true, () -> x.fills(0));
                x.full(corners, true, 0);
                check.answers("the rim in the rim " + corners, false, () -> x.fills(0));
            }
        }
    }
}
