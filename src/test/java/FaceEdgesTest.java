import java.util.ArrayList;
import java.util.List;
import java.util.NoSuchElementException;

/** Promises 16 to 24: each sentence that names an edge, by a test of its own. */
public final class FaceEdgesTest {
    private static final Class<IndexOutOfBoundsException> NO_PLACE = IndexOutOfBoundsException.class;
    private static final Class<NoSuchElementException> ABSENT = NoSuchElementException.class;
    private static final int ALL = 127;
    private static final int[] FULL_OF = {7, 21, 35, 35, 21, 7, 1};

    /** The places of the object that most tests here look at. */
    private static final int FULL = 0;
    private static final int RIM = 1;
    private static final int NONE = 2;
    private static final int LONE = 5;

    private static final Check check = new Check("FaceEdgesTest");

    public static void main(String[] args) {
        hasEachFace();
        sizeOfEach();
        facesOfEachHeight();
        cornersOfNone();
        cornersOfEach();
        overDoesNotCountItself();
        overOfWhatIsNotThere();
        greatestOfEach();
        greatestAtBothEnds();
        greatestAtBeyond();
        greatestAtInOrder();
        isSameAtOnePlace();
        isSameOfEach();
        containsAtOnePlace();
        containsOfEach();
        check.end();
    }

    private static Works edges() {
        Works x = new Works();
        x.full(ALL, false, FULL);
        x.full(ALL, true, RIM);
        x.put(LONE, 64);
        return x;
    }

    private static void hasEachFace() {
        check.sentence("16: Returns whether it has; face 1 to 127");
        for (int face = 1; face <= ALL; face++) {
            Works x = edges();
            int each = face;
            check.answers("the full has " + face, true, () -> x.has(FULL, each));
            check.answers("the rim has " + face, face < ALL, () -> x.has(RIM, each));
            check.answers("none has " + face, false, () -> x.has(NONE, each));
            check.tells("a lone corner has " + face, x, face == 64, () -> x.has(LONE, each));
        }
    }

    private static void sizeOfEach() {
        check.sentence("17: Tells how many faces a shape has");
        Works x = edges();
        check.tells("the full", x, 127, () -> x.size(FULL));
        check.tells("the rim", x, 126, () -> x.size(RIM));
        check.tells("none", x, 0, () -> x.size(NONE));
        check.tells("a lone corner", x, 1, () -> x.size(LONE));
    }

    private static void facesOfEachHeight() {
        check.sentence("18: Tells how many faces of a height a shape has; 0 to 6");
        Works x = edges();
        for (int height = 0; height < 7; height++) {
            int each = height;
            check.tells("the full of " + height, x, FULL_OF[height], () -> x.faces(FULL, each));
            check.tells("the rim of " + height, x, height == 6 ? 0 : FULL_OF[height], () -> x.faces(RIM, each));
            check.tells("none of " + height, x, 0, () -> x.faces(NONE, each));
            check.tells("a lone corner of " + height, x, height == 0 ? 1 : 0, () -> x.faces(LONE, each));
        }
    }

    private static void cornersOfNone() {
        check.sentence("19: 0 without faces");
        for (int place = 0; place < Works.PLACES; place++) {
            int each = place;
            Works x = new Works();
            check.tells("a new one at " + place, x, 0, () -> x.corners(each));
            Works y = Check.worksWith(place, ALL);
            y.clear(place);
            check.tells("a cleared one at " + place, y, 0, () -> y.corners(each));
        }
        Works x = new Works();
        x.full(8, true, 3);
        check.tells("the rim of one corner", x, 0, () -> x.corners(3));
    }

    private static void cornersOfEach() {
        check.sentence("19: Returns their number, as that of a face");
        for (int corners = 1; corners <= ALL; corners++) {
            int each = corners;
            Works x = new Works();
            x.full(corners, false, 4);
            check.answers("the full of " + corners, each, () -> x.corners(4));
            x.low(4, 0, 0);
            check.answers("the corners of " + corners, each, () -> x.corners(0));
            boolean isOne = Integer.bitCount(corners) == 1;
            x.full(corners, true, 4);
            check.answers("the rim of " + corners, isOne ? 0 : each, () -> x.corners(4));
        }
    }

    private static void overDoesNotCountItself() {
        check.sentence("20: Returns in how many, itself not counted");
        for (int face = 1; face <= ALL; face++) {
            int each = face;
            int due = (1 << 7 - Integer.bitCount(face)) - 1;
            Works x = edges();
            check.tells("in the full over " + face, x, due, () -> x.over(FULL, each));
            if (face < ALL) {
                check.tells("in the rim over " + face, x, due - 1, () -> x.over(RIM, each));
            }
        }
        Works x = edges();
        check.tells("over a lone corner", x, 0, () -> x.over(LONE, 64));
    }

    private static void overOfWhatIsNotThere() {
        check.sentence("20: Throws NoSuchElementException if the shape does not have it");
        Works x = edges();
        check.refuses("all of the rim", x, ABSENT, () -> x.over(RIM, ALL));
        check.refuses("the least of none", x, ABSENT, () -> x.over(NONE, 1));
        check.refuses("the greatest of none", x, ABSENT, () -> x.over(NONE, ALL));
        check.refuses("another corner", x, ABSENT, () -> x.over(LONE, 32));
        check.refuses("an edge of the corner", x, ABSENT, () -> x.over(LONE, 65));
    }

    private static void greatestOfEach() {
        check.sentence("21: Tells how many greatest faces a shape has");
        Works x = edges();
        check.tells("the full", x, 1, () -> x.greatest(FULL));
        check.tells("the rim", x, 7, () -> x.greatest(RIM));
        check.tells("none", x, 0, () -> x.greatest(NONE));
        check.tells("a lone corner", x, 1, () -> x.greatest(LONE));
        for (int height = 0; height < 7; height++) {
            x.low(FULL, height, 3);
            check.answers("the full up to " + height, FULL_OF[height], () -> x.greatest(3));
        }
    }

    private static void greatestAtBothEnds() {
        check.sentence("22: index: from 0 on");
        Works x = edges();
        check.tells("the only one of the full", x, ALL, () -> x.greatestAt(FULL, 0));
        check.tells("the first of the rim", x, 63, () -> x.greatestAt(RIM, 0));
        check.tells("the last of the rim", x, 126, () -> x.greatestAt(RIM, 6));
        check.tells("the only one of a lone corner", x, 64, () -> x.greatestAt(LONE, 0));
    }

    private static void greatestAtBeyond() {
        check.sentence("22: Throws IndexOutOfBoundsException if there is no such greatest face");
        Works x = edges();
        for (int bad : new int[] {-1, 1, 64, 127, 128, Integer.MIN_VALUE, Integer.MAX_VALUE}) {
            check.refuses("the full at " + bad, x, NO_PLACE, () -> x.greatestAt(FULL, bad));
            check.refuses("a lone corner at " + bad, x, NO_PLACE, () -> x.greatestAt(LONE, bad));
            check.refuses("none at " + bad, x, NO_PLACE, () -> x.greatestAt(NONE, bad));
        }
        check.refuses("none at 0", x, NO_PLACE, () -> x.greatestAt(NONE, 0));
        check.refuses("the rim at 7", x, NO_PLACE, () -> x.greatestAt(RIM, 7));
        check.refuses("the rim at -1", x, NO_PLACE, () -> x.greatestAt(RIM, -1));
    }

    private static void greatestAtInOrder() {
        check.sentence("22: in the order of their numbers");
        Works x = edges();
        for (int height = 0; height < 7; height++) {
            x.low(FULL, height, 3);
            List<Integer> due = new ArrayList<>();
            List<Integer> got = new ArrayList<>();
            for (int face = 1; face <= ALL; face++) {
                if (Integer.bitCount(face) == height + 1) {
                    got.add(x.greatestAt(3, due.size()));
                    due.add(face);
                }
            }
            check.same("the greatest up to " + height, due, got);
            int many = due.size();
            check.answers("one more up to " + height, "IndexOutOfBoundsException", () -> x.greatestAt(3, many));
        }
    }

    private static void isSameAtOnePlace() {
        check.sentence("23: it may be the same place");
        for (Scene scene : Scene.EDGES) {
            for (int place = 0; place < Works.PLACES; place++) {
                int each = place;
                Works x = scene.newWorks();
                check.tells(scene.name() + " at " + place, x, true, () -> x.isSame(each, each));
            }
        }
    }

    private static void isSameOfEach() {
        check.sentence("23: Returns whether they have the same faces");
        for (Scene scene : Scene.EDGES) {
            List<List<Integer>> kept = scene.newWorks().kept();
            for (int place = 0; place < Works.PLACES; place++) {
                for (int other = 0; other < Works.PLACES; other++) {
                    int one = place;
                    int two = other;
                    Works x = scene.newWorks();
                    boolean due = kept.get(place).equals(kept.get(other));
                    check.tells(scene.name() + " " + place + " " + other, x, due, () -> x.isSame(one, two));
                }
            }
        }
        Works x = Check.worksWith(0, ALL);
        x.full(ALL, true, 1);
        check.answers("the full and the rim", false, () -> x.isSame(0, 1));
        check.answers("the rim and the full", false, () -> x.isSame(1, 0));
        x.take(0, ALL);
        check.answers("the rim and the rim", true, () -> x.isSame(0, 1));
    }

    private static void containsAtOnePlace() {
        check.sentence("24: the other one, it may be the same place");
        for (Scene scene : Scene.EDGES) {
            for (int place = 0; place < Works.PLACES; place++) {
                int each = place;
                Works x = scene.newWorks();
                check.tells(scene.name() + " at " + place, x, true, () -> x.contains(each, each));
            }
        }
    }

    private static void containsOfEach() {
        check.sentence("24: Tells whether a shape has all faces of another one");
        Works x = edges();
        x.put(3, 64);
        x.put(4, 1);
        check.tells("the full has the rim", x, true, () -> x.contains(FULL, RIM));
        check.tells("the rim has not the full", x, false, () -> x.contains(RIM, FULL));
        check.tells("the full has none", x, true, () -> x.contains(FULL, NONE));
        check.tells("none has not the full", x, false, () -> x.contains(NONE, FULL));
        check.tells("none has not a corner", x, false, () -> x.contains(NONE, LONE));
        check.tells("a corner has none", x, true, () -> x.contains(LONE, NONE));
        check.tells("the rim has a corner", x, true, () -> x.contains(RIM, LONE));
        check.tells("a corner has not the rim", x, false, () -> x.contains(LONE, RIM));
        check.tells("a corner has the same corner", x, true, () -> x.contains(LONE, 3));
        check.tells("a corner has not another", x, false, () -> x.contains(LONE, 4));
        x.clear(0);
        check.tells("none has none", x, true, () -> x.contains(FULL, NONE));
    }
}
