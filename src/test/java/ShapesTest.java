import java.util.List;
import java.util.NoSuchElementException;

/** Promises 1 to 15: a new object, and the calls that make shapes. */
public final class ShapesTest {
    private static final int[] NO_PLACES = {-1, 6, 64, Integer.MIN_VALUE, Integer.MAX_VALUE};
    private static final int[] NO_FACES = {0, -1, 128, 255, Integer.MIN_VALUE, Integer.MAX_VALUE};
    private static final int[] NO_CORNERS = {-1, 7, 32, Integer.MIN_VALUE, Integer.MAX_VALUE};
    private static final Class<IndexOutOfBoundsException> NO_PLACE = IndexOutOfBoundsException.class;
    private static final Class<IllegalArgumentException> BAD = IllegalArgumentException.class;
    private static final Class<NoSuchElementException> ABSENT = NoSuchElementException.class;
    private static final Class<IllegalStateException> STATE = IllegalStateException.class;

    private static final Check check = new Check("ShapesTest");

    public static void main(String[] args) {
        promise1New();
        promise2Put();
        promise3Take();
        promise4Clear();
        promise5Copy();
        promise6Unite();
        promise7Meet();
        promise8Full();
        promise9Low();
        promise10About();
        promise10Around();
        promise11Cone();
        promise12Lift();
        promise13Other();
        promise14Exchange();
        promise15Fold();
        check.end();
    }

    private static void faces(Works x, String what, int place, Integer... due) {
        check.same(what, List.of(due), x.facesAt(place));
    }

    private static void promise1New() {
        Works x = new Works();
        for (int place = 0; place < 6; place++) {
            faces(x, "a new shape", place);
            check.same("a new size", 0, x.size(place));
        }
        check.same("a new row", List.of(), x.rowFaces());
        check.same("a new row's faces", 0, x.drop());
    }

    private static void promise2Put() {
        Works x = new Works();
        check.answers("put a corner", 1, () -> x.put(0, 64));
        check.answers("put it again", 0, () -> x.put(0, 64));
        check.answers("put a triangle", 7, () -> x.put(5, 7));
        faces(x, "a triangle", 5, 1, 2, 3, 4, 5, 6, 7);
        check.answers("put its neighbour", 4, () -> x.put(5, 14));
        faces(x, "two triangles", 5, 1, 2, 3, 4, 5, 6, 7, 8, 10, 12, 14);
        check.answers("put a part", 0, () -> x.put(5, 12));
        check.answers("put all corners", 126, () -> x.put(0, 127));
        check.same("all faces", 127, x.size(0));
        faces(x, "another place", 1);
        for (int bad : NO_PLACES) {
            check.refuses("put at " + bad, x, NO_PLACE, () -> x.put(bad, 1));
            check.refuses("put no face at " + bad, x, NO_PLACE, () -> x.put(bad, 0));
        }
        for (int bad : NO_FACES) {
            check.refuses("put " + bad, x, BAD, () -> x.put(1, bad));
        }
    }

    private static void promise3Take() {
        Works x = Check.worksWith(1, 7, 14);
        check.answers("take an edge", 3, () -> x.take(1, 6));
        faces(x, "without the edge", 1, 1, 2, 3, 4, 5, 8, 10, 12);
        check.answers("take a corner", 3, () -> x.take(1, 8));
        faces(x, "without the corner", 1, 1, 2, 3, 4, 5);
        check.refuses("take it again", x, ABSENT, () -> x.take(1, 8));
        check.refuses("take from none", x, ABSENT, () -> x.take(0, 1));
        x.full(127, false, 2);
        check.answers("take 64 of all", 64, () -> x.take(2, 64));
        check.same("the rest over six", 63, x.corners(2));
        x.full(127, false, 2);
        check.answers("take the greatest", 1, () -> x.take(2, 127));
        check.answers("take the last corner but one", 63, () -> x.take(2, 1));
        for (int bad : NO_PLACES) {
            check.refuses("take at " + bad, x, NO_PLACE, () -> x.take(bad, 1));
            check.refuses("take no face at " + bad, x, NO_PLACE, () -> x.take(bad, 128));
        }
        for (int bad : NO_FACES) {
            check.refuses("take " + bad, x, BAD, () -> x.take(0, bad));
        }
    }

    private static void promise4Clear() {
        Works x = Check.worksWith(3, 96, 1);
        x.put(4, 2);
        check.answers("clear", 4, () -> x.clear(3));
        faces(x, "cleared", 3);
        faces(x, "not cleared", 4, 2);
        check.answers("clear again", 0, () -> x.clear(3));
        x.full(127, false, 0);
        check.answers("clear all", 127, () -> x.clear(0));
        for (int bad : NO_PLACES) {
            check.refuses("clear " + bad, x, NO_PLACE, () -> x.clear(bad));
        }
    }

    private static void promise5Copy() {
        Works x = Check.worksWith(0, 7);
        x.put(1, 120);
        check.answers("copy", 7, () -> x.copy(0, 1));
        faces(x, "the copy", 1, 1, 2, 3, 4, 5, 6, 7);
        x.take(1, 7);
        faces(x, "the first one stays", 0, 1, 2, 3, 4, 5, 6, 7);
        check.answers("copy on itself", 7, () -> x.copy(0, 0));
        faces(x, "itself", 0, 1, 2, 3, 4, 5, 6, 7);
        check.answers("copy none", 0, () -> x.copy(5, 1));
        faces(x, "none", 1);
        for (int bad : NO_PLACES) {
            check.refuses("copy of " + bad, x, NO_PLACE, () -> x.copy(bad, 1));
            check.refuses("copy to " + bad, x, NO_PLACE, () -> x.copy(0, bad));
        }
    }

    private static void promise6Unite() {
        Works x = Check.worksWith(0, 3);
        x.put(1, 66);
        check.answers("unite", 5, () -> x.unite(0, 1, 2));
        faces(x, "the union", 2, 1, 2, 3, 64, 66);
        faces(x, "the first stays", 0, 1, 2, 3);
        faces(x, "the second stays", 1, 2, 64, 66);
        check.answers("unite with itself", 3, () -> x.unite(0, 0, 3));
        faces(x, "itself", 3, 1, 2, 3);
        check.answers("unite with none", 3, () -> x.unite(5, 0, 3));
        check.answers("unite on the first", 5, () -> x.unite(0, 1, 0));
        faces(x, "on the first", 0, 1, 2, 3, 64, 66);
        x.clear(3);
        x.put(3, 4);
        check.answers("unite on the second", 4, () -> x.unite(3, 1, 1));
        faces(x, "on the second", 1, 2, 4, 64, 66);
        for (int bad : NO_PLACES) {
            check.refuses("unite " + bad, x, NO_PLACE, () -> x.unite(bad, 0, 1));
            check.refuses("unite with " + bad, x, NO_PLACE, () -> x.unite(0, bad, 1));
            check.refuses("unite to " + bad, x, NO_PLACE, () -> x.unite(0, 1, bad));
        }
    }

    private static void promise7Meet() {
        Works x = Check.worksWith(0, 7, 96);
        Check.putAll(x, 1, 14, 64);
        check.answers("meet", 4, () -> x.meet(0, 1, 2));
        faces(x, "the meeting", 2, 2, 4, 6, 64);
        faces(x, "the first stays", 0, 1, 2, 3, 4, 5, 6, 7, 32, 64, 96);
        check.answers("meet itself", 10, () -> x.meet(0, 0, 3));
        check.answers("meet none", 0, () -> x.meet(0, 5, 3));
        faces(x, "none", 3);
        check.answers("meet on the second", 4, () -> x.meet(0, 1, 1));
        faces(x, "on the second", 1, 2, 4, 6, 64);
        check.answers("meet on the first", 4, () -> x.meet(0, 1, 0));
        faces(x, "on the first", 0, 2, 4, 6, 64);
        for (int bad : NO_PLACES) {
            check.refuses("meet " + bad, x, NO_PLACE, () -> x.meet(bad, 0, 1));
            check.refuses("meet with " + bad, x, NO_PLACE, () -> x.meet(0, bad, 1));
            check.refuses("meet to " + bad, x, NO_PLACE, () -> x.meet(0, 1, bad));
        }
    }

    private static void promise8Full() {
        Works x = Check.worksWith(1, 127);
        check.answers("full of three", 7, () -> x.full(82, false, 1));
        faces(x, "full of three", 1, 2, 16, 18, 64, 66, 80, 82);
        check.answers("rim of three", 6, () -> x.full(82, true, 1));
        faces(x, "rim of three", 1, 2, 16, 18, 64, 66, 80);
        check.answers("rim of two", 2, () -> x.full(65, true, 1));
        faces(x, "rim of two", 1, 1, 64);
        check.answers("full of one", 1, () -> x.full(8, false, 1));
        check.answers("rim of one", 0, () -> x.full(8, true, 1));
        faces(x, "rim of one", 1);
        check.answers("full of all", 127, () -> x.full(127, false, 0));
        check.answers("rim of all", 126, () -> x.full(127, true, 0));
        check.answers("not the greatest", false, () -> x.has(0, 127));
        for (int bad : NO_PLACES) {
            check.refuses("full to " + bad, x, NO_PLACE, () -> x.full(1, false, bad));
            check.refuses("full of none to " + bad, x, NO_PLACE, () -> x.full(0, true, bad));
        }
        for (int bad : NO_FACES) {
            check.refuses("full of " + bad, x, BAD, () -> x.full(bad, false, 0));
            check.refuses("rim of " + bad, x, BAD, () -> x.full(bad, true, 0));
        }
    }

    private static void promise9Low() {
        Works x = Check.worksWith(0, 15, 96);
        check.answers("low to 0", 6, () -> x.low(0, 0, 1));
        faces(x, "low to 0", 1, 1, 2, 4, 8, 32, 64);
        check.answers("low to 1", 13, () -> x.low(0, 1, 1));
        check.answers("low to 2", 17, () -> x.low(0, 2, 1));
        check.answers("low to 3", 18, () -> x.low(0, 3, 1));
        check.answers("low to 6", 18, () -> x.low(0, 6, 1));
        check.answers("low of none", 0, () -> x.low(5, 6, 1));
        check.answers("low on itself", 13, () -> x.low(0, 1, 0));
        check.same("no triangles", 0, x.faces(0, 2));
        x.full(127, false, 2);
        int[] due = {7, 28, 63, 98, 119, 126, 127};
        for (int height = 0; height < 7; height++) {
            int each = height;
            check.answers("low of all to " + each, due[each], () -> x.low(2, each, 3));
        }
        for (int bad : NO_PLACES) {
            check.refuses("low of " + bad, x, NO_PLACE, () -> x.low(bad, -1, 1));
            check.refuses("low to " + bad, x, NO_PLACE, () -> x.low(0, 7, bad));
        }
        for (int bad : NO_CORNERS) {
            check.refuses("low up to " + bad, x, BAD, () -> x.low(0, bad, 1));
        }
    }

    private static void promise10About() {
        Works x = Check.worksWith(0, 7, 14, 80);
        check.answers("about a corner", 7, () -> x.about(0, 1, false, 1));
        faces(x, "about a corner", 1, 1, 2, 3, 4, 5, 6, 7);
        check.answers("about an inner edge", 11, () -> x.about(0, 6, false, 1));
        check.answers("about an outer edge", 7, () -> x.about(0, 12, false, 1));
        check.answers("about a greatest", 7, () -> x.about(0, 7, false, 1));
        check.answers("about the far edge", 3, () -> x.about(0, 64, false, 1));
        faces(x, "about the far corner", 1, 16, 64, 80);
        check.answers("about, on itself", 11, () -> x.about(0, 2, false, 0));
        check.same("the far edge is gone", false, x.has(0, 80));
        for (int bad : NO_PLACES) {
            check.refuses("about at " + bad, x, NO_PLACE, () -> x.about(bad, 0, false, 1));
            check.refuses("about to " + bad, x, NO_PLACE, () -> x.about(0, 0, false, bad));
            check.refuses("about absent to " + bad, x, NO_PLACE, () -> x.about(0, 64, false, bad));
        }
        for (int bad : NO_FACES) {
            check.refuses("about " + bad, x, BAD, () -> x.about(0, bad, false, 1));
            check.refuses("around " + bad, x, BAD, () -> x.about(0, bad, true, 1));
        }
        check.refuses("about absent", x, ABSENT, () -> x.about(0, 9, false, 1));
        check.refuses("around absent", x, ABSENT, () -> x.about(5, 1, true, 1));
    }

    private static void promise10Around() {
        Works x = Check.worksWith(0, 7, 14, 80);
        check.answers("around a corner", 3, () -> x.about(0, 1, true, 1));
        faces(x, "around a corner", 1, 2, 4, 6);
        check.answers("around an inner corner", 5, () -> x.about(0, 2, true, 1));
        faces(x, "around an inner corner", 1, 1, 4, 5, 8, 12);
        check.answers("around an inner edge", 2, () -> x.about(0, 6, true, 1));
        faces(x, "around an inner edge", 1, 1, 8);
        check.answers("around a greatest", 0, () -> x.about(0, 7, true, 1));
        faces(x, "around a greatest", 1);
        check.answers("around, on itself", 1, () -> x.about(0, 16, true, 0));
        faces(x, "around, on itself", 0, 64);
        x.full(127, true, 2);
        check.answers("around in the rim", 62, () -> x.about(2, 1, true, 3));
        check.same("it is the rim of the others", 126, x.corners(3));
    }

    private static void promise11Cone() {
        Works x = Check.worksWith(0, 3, 4);
        check.answers("cone", 9, () -> x.cone(0, 6, 1));
        faces(x, "cone", 1, 1, 2, 3, 4, 64, 65, 66, 67, 68);
        faces(x, "it stays", 0, 1, 2, 3, 4);
        check.answers("cone of none", 1, () -> x.cone(5, 0, 2));
        faces(x, "cone of none", 2, 1);
        check.answers("cone on itself", 9, () -> x.cone(0, 5, 0));
        check.same("with the tip", 39, x.corners(0));
        x.full(63, false, 3);
        check.answers("cone to all", 127, () -> x.cone(3, 6, 3));
        for (int corner = 0; corner < 7; corner++) {
            int each = corner;
            check.refuses("cone with its corner " + each, x, STATE, () -> x.cone(3, each, 1));
        }
        for (int corner = 0; corner < 7; corner++) {
            Works y = Check.worksWith(0, 1 << corner);
            for (int tip = 0; tip < 7; tip++) {
                int each = tip;
                if (tip == corner) {
                    check.refuses("cone of " + corner + " with it", y, STATE, () -> y.cone(0, each, 1));
                } else {
                    check.answers("cone of " + corner + " with " + tip, 3, () -> y.cone(0, each, 1));
                    check.same("the edge", true, y.has(1, 1 << corner | 1 << tip));
                }
            }
        }
        for (int bad : NO_PLACES) {
            check.refuses("cone of " + bad, x, NO_PLACE, () -> x.cone(bad, 7, 1));
            check.refuses("cone to " + bad, x, NO_PLACE, () -> x.cone(0, -1, bad));
            check.refuses("cone with its own to " + bad, x, NO_PLACE, () -> x.cone(0, 0, bad));
        }
        for (int bad : NO_CORNERS) {
            check.refuses("cone with " + bad, x, BAD, () -> x.cone(0, bad, 1));
            check.refuses("cone of all with " + bad, x, BAD, () -> x.cone(3, bad, 1));
        }
    }

    private static void promise12Lift() {
        Works x = Check.worksWith(0, 3, 4);
        check.answers("lift", 14, () -> x.lift(0, 6, 3, 1));
        faces(x, "lift", 1, 1, 2, 3, 4, 8, 9, 10, 11, 12, 64, 65, 66, 67, 68);
        check.answers("lift of none", 2, () -> x.lift(5, 0, 1, 2));
        faces(x, "lift of none", 2, 1, 2);
        check.answers("lift on itself", 14, () -> x.lift(0, 4, 5, 0));
        check.same("with both", 55, x.corners(0));
        check.refuses("lift with its first", x, STATE, () -> x.lift(0, 0, 3, 1));
        check.refuses("lift with its second", x, STATE, () -> x.lift(0, 3, 5, 1));
        check.refuses("lift with its own", x, STATE, () -> x.lift(0, 1, 2, 1));
        check.refuses("lift with one twice", x, BAD, () -> x.lift(0, 3, 3, 1));
        check.refuses("lift with its own twice", x, BAD, () -> x.lift(0, 0, 0, 1));
        for (int bad : NO_PLACES) {
            check.refuses("lift of " + bad, x, NO_PLACE, () -> x.lift(bad, 3, 3, 1));
            check.refuses("lift to " + bad, x, NO_PLACE, () -> x.lift(0, 7, 0, bad));
            check.refuses("lift with its own to " + bad, x, NO_PLACE, () -> x.lift(0, 0, 1, bad));
        }
        for (int bad : NO_CORNERS) {
            check.refuses("lift with " + bad, x, BAD, () -> x.lift(0, bad, 0, 1));
            check.refuses("lift also with " + bad, x, BAD, () -> x.lift(0, 0, bad, 1));
        }
    }

    private static void promise13Other() {
        Works x = Check.worksWith(0, 3, 5);
        check.answers("other over its own", 1, () -> x.other(0, 7, 1));
        faces(x, "other over its own", 1, 1);
        check.answers("other over four", 9, () -> x.other(0, 15, 1));
        faces(x, "other over four", 1, 1, 2, 3, 4, 5, 6, 7, 8, 9);
        check.answers("other of the other", 5, () -> x.other(1, 15, 1));
        faces(x, "other of the other", 1, 1, 2, 3, 4, 5);
        check.answers("other with a gap", 9, () -> x.other(0, 71, 2));
        faces(x, "other with a gap", 2, 1, 2, 3, 4, 5, 6, 7, 64, 65);
        check.answers("other over all", 121, () -> x.other(0, 127, 0));
        check.answers("other over all, back", 5, () -> x.other(0, 127, 0));
        check.answers("other of none", 6, () -> x.other(5, 82, 3));
        faces(x, "other of none is the rim", 3, 2, 16, 18, 64, 66, 80);
        check.answers("other of the rim", 0, () -> x.other(3, 82, 3));
        check.answers("other of none over one", 0, () -> x.other(5, 16, 3));
        x.put(3, 16);
        check.answers("other of one over one", 0, () -> x.other(3, 16, 4));
        check.answers("other of one over two", 1, () -> x.other(3, 18, 4));
        faces(x, "other of one over two", 4, 16);
        x.full(7, false, 4);
        check.answers("other of full", 0, () -> x.other(4, 7, 4));
        check.refuses("other over too few", x, STATE, () -> x.other(0, 5, 1));
        check.refuses("other over others", x, STATE, () -> x.other(0, 120, 1));
        for (int bad : NO_PLACES) {
            check.refuses("other of " + bad, x, NO_PLACE, () -> x.other(bad, 0, 1));
            check.refuses("other to " + bad, x, NO_PLACE, () -> x.other(0, 128, bad));
            check.refuses("other over too few to " + bad, x, NO_PLACE, () -> x.other(0, 1, bad));
        }
        for (int bad : NO_FACES) {
            check.refuses("other over " + bad, x, BAD, () -> x.other(0, bad, 1));
        }
    }

    private static void promise14Exchange() {
        Works x = Check.worksWith(0, 7, 24);
        check.answers("exchange", 4, () -> x.exchange(0, 0, 3, 1));
        faces(x, "exchange", 1, 1, 2, 4, 6, 8, 10, 12, 14, 16, 17);
        faces(x, "it stays", 0, 1, 2, 3, 4, 5, 6, 7, 8, 16, 24);
        check.answers("exchange with a new one", 4, () -> x.exchange(0, 0, 6, 1));
        faces(x, "exchange with a new one", 1, 2, 4, 6, 8, 16, 24, 64, 66, 68, 70);
        check.answers("exchange of like ones", 0, () -> x.exchange(0, 1, 2, 1));
        check.same("the same", true, x.isSame(0, 1));
        check.answers("exchange of one", 0, () -> x.exchange(0, 4, 4, 2));
        check.same("the same again", true, x.isSame(0, 2));
        check.answers("exchange of new ones", 0, () -> x.exchange(0, 5, 6, 2));
        check.answers("exchange of none", 0, () -> x.exchange(5, 0, 1, 2));
        faces(x, "exchange of none", 2);
        check.answers("exchange on itself", 4, () -> x.exchange(0, 6, 0, 0));
        faces(x, "exchange on itself", 0, 2, 4, 6, 8, 16, 24, 64, 66, 68, 70);
        for (int bad : NO_PLACES) {
            check.refuses("exchange of " + bad, x, NO_PLACE, () -> x.exchange(bad, 7, 0, 1));
            check.refuses("exchange to " + bad, x, NO_PLACE, () -> x.exchange(0, 0, 7, bad));
        }
        for (int bad : NO_CORNERS) {
            check.refuses("exchange " + bad, x, BAD, () -> x.exchange(0, bad, 0, 1));
            check.refuses("exchange with " + bad, x, BAD, () -> x.exchange(0, 0, bad, 1));
        }
    }

    private static void promise15Fold() {
        Works x = Check.worksWith(0, 7, 14, 64);
        check.answers("fold an edge", 7, () -> x.fold(0, 3));
        faces(x, "fold an edge", 0, 1, 2, 4, 5, 6, 8, 10, 12, 14, 64);
        check.answers("fold a corner", 5, () -> x.fold(0, 1));
        faces(x, "fold a corner", 0, 2, 4, 6, 8, 10, 12, 14, 64);
        check.refuses("fold of a corner in more", x, STATE, () -> x.fold(0, 2));
        check.refuses("fold of a greatest", x, STATE, () -> x.fold(0, 14));
        check.refuses("fold of a lone corner", x, STATE, () -> x.fold(0, 64));
        check.refuses("fold of an absent", x, ABSENT, () -> x.fold(0, 3));
        check.refuses("fold in none", x, ABSENT, () -> x.fold(5, 1));
        x.full(127, false, 1);
        check.answers("fold in all", 127, () -> x.fold(1, 95));
        check.same("all but two", 125, x.size(1));
        check.answers("fold in the rest", 63, () -> x.fold(1, 31));
        check.same("all but four", 123, x.size(1));
        x.put(2, 3);
        check.answers("fold to one corner", 3, () -> x.fold(2, 2));
        check.refuses("fold of one corner", x, STATE, () -> x.fold(2, 1));
        for (int bad : NO_PLACES) {
            check.refuses("fold at " + bad, x, NO_PLACE, () -> x.fold(bad, 0));
        }
        for (int bad : NO_FACES) {
            check.refuses("fold of " + bad, x, BAD, () -> x.fold(0, bad));
        }
    }
}
