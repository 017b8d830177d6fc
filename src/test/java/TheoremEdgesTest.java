import java.util.NoSuchElementException;

/**
 * Promises 39 to 42: each sentence that names an edge, by a test of its own. The theorem holds for all shapes, so no
 * shape can be told for which the answer would be another one: what is tried is that none is refused or denied where
 * the theorem tells nothing, or only a part of it.
 */
public final class TheoremEdgesTest {
    private static final Class<NoSuchElementException> ABSENT = NoSuchElementException.class;
    private static final Class<IllegalArgumentException> BAD = IllegalArgumentException.class;
    private static final int ALL = 127;

    private static final Check check = new Check("TheoremEdgesTest");

    public static void main(String[] args) {
        isSoundOfEachScene();
        isSoundOfRowsThatAreNotThere();
        isSoundOfEachFaceAsRow();
        isTrueOfEachScene();
        isTrueOfEachRim();
        isTrueWithFewCornersLeft();
        isTrueOfNoCorner();
        faceIsTrueOfEachScene();
        faceIsTrueOfTheLastFace();
        faceIsTrueOfWhatIsNotThere();
        pairIsTrueOfEachScene();
        pairIsTrueAtOnePlace();
        pairIsTrueOfOneCornerTogether();
        check.end();
    }

    private static void holds(String what, Works x, Check.Call call) {
        check.tells(what, x, true, call);
    }

    private static void isSoundOfEachScene() {
        check.sentence("39: (2) and (3) for a shape, (1) for the row");
        for (Scene scene : Scene.EDGES) {
            for (int place = 0; place < Works.PLACES; place++) {
                int each = place;
                Works x = scene.newWorks();
                holds(scene.name() + " at " + place, x, () -> x.isSound(each));
            }
        }
        Works none = new Works();
        holds("no faces at all", none, () -> none.isSound(0));
    }

    private static void isSoundOfRowsThatAreNotThere() {
        check.sentence("39: whether the row fills as (1) tells, if the shape has all of its faces");
        for (int[] row : Samples.ROWS) {
            Works x = new Works();
            Check.setRow(x, row);
            x.put(1, 1);
            x.put(2, 64);
            x.full(62, true, 3);
            for (int place = 0; place < Works.PLACES; place++) {
                int each = place;
                holds("place " + place, x, () -> x.isSound(each));
            }
        }
    }

    private static void isSoundOfEachFaceAsRow() {
        check.sentence("39: a row of a face of the height 0 to 6, and its border");
        for (int face = 1; face <= ALL; face++) {
            Works x = new Works();
            x.full(face, false, 0);
            x.full(face, true, 1);
            x.full(ALL, false, 2);
            x.full(ALL, true, 3);
            x.flip(face);
            for (int place = 0; place < Works.PLACES; place++) {
                int each = place;
                holds("the face " + face + " at " + place, x, () -> x.isSound(each));
            }
            x.border();
            for (int place = 0; place < Works.PLACES; place++) {
                int each = place;
                holds("the border of " + face + " at " + place, x, () -> x.isSound(each));
            }
        }
    }

    private static void isTrueOfEachScene() {
        check.sentence("40: one: 0 to 6, other: 0 to 6, also the same");
        for (Scene scene : Scene.EDGES) {
            for (int one = 0; one < 7; one++) {
                for (int other = 0; other < 7; other++) {
                    int a = one;
                    int b = other;
                    int place = (one + other) % Works.PLACES;
                    Works x = scene.newWorks();
                    holds(scene.name() + " at " + place + " " + a + " " + b, x, () -> x.isTrue(place, a, b));
                }
            }
        }
    }

    private static void isTrueOfEachRim() {
        check.sentence("40: (9) over all seven corners and over its own, where the theorem tells something");
        for (int corners = 1; corners <= ALL; corners++) {
            Works x = new Works();
            x.full(corners, false, 0);
            x.full(corners, true, 1);
            x.full(corners, false, 2);
            x.low(2, 0, 2);
            x.full(corners, true, 3);
            x.other(1, ALL, 4);
            x.other(2, corners, 5);
            for (int place = 0; place < Works.PLACES; place++) {
                int each = place;
                holds("of " + corners + " at " + place, x, () -> x.isTrue(each, 0, 6));
            }
        }
    }

    private static void isTrueWithFewCornersLeft() {
        check.sentence("40: (4) and (5) with the least corners that it does not have, if there are enough");
        int[] all = {ALL, 63, 126, 95, 31, 124, 62, 1, 64};
        for (int corners : all) {
            Works x = new Works();
            x.full(corners, false, 0);
            x.full(corners, true, 1);
            x.low(0, 0, 2);
            for (int place = 0; place < 4; place++) {
                int each = place;
                holds("of " + corners + " at " + place, x, () -> x.isTrue(each, 6, 6));
            }
        }
    }

    private static void isTrueOfNoCorner() {
        check.sentence("40: Throws IllegalArgumentException if there is no such corner");
        for (Scene scene : Scene.EDGES) {
            Works x = scene.newWorks();
            for (int bad : new int[] {-1, 7, Integer.MIN_VALUE, Integer.MAX_VALUE}) {
                check.refuses("one " + bad, x, BAD, () -> x.isTrue(0, bad, 0));
                check.refuses("other " + bad, x, BAD, () -> x.isTrue(5, 6, bad));
                check.refuses("both " + bad, x, BAD, () -> x.isTrue(5, bad, bad));
            }
        }
    }

    private static void faceIsTrueOfEachScene() {
        check.sentence("41: the faces about it by (4), and (7), if it lies in just one other face, or in none");
        for (Scene scene : Scene.EDGES) {
            for (int place = 0; place < Works.PLACES; place++) {
                int each = place;
                for (int face : scene.newWorks().facesAt(place)) {
                    Works x = scene.newWorks();
                    check.answers(scene.name() + " at " + place, true, () -> x.faceIsTrue(each, face));
                    check.same("nothing changes", scene.newWorks().facesAt(place), x.facesAt(place));
                }
            }
        }
    }

    private static void faceIsTrueOfTheLastFace() {
        check.sentence("41: (7) tells nothing of a face without which none is left");
        for (int corner = 0; corner < 7; corner++) {
            int face = 1 << corner;
            Works x = Check.worksWith(5, face);
            holds("a lone corner", x, () -> x.faceIsTrue(5, face));
            int second = face == 64 ? 1 : 2 * face;
            x.put(5, second);
            holds("one of two corners", x, () -> x.faceIsTrue(5, face));
            x.put(5, face + second);
            holds("an end of an edge", x, () -> x.faceIsTrue(5, face));
            holds("an edge", x, () -> x.faceIsTrue(5, face + second));
        }
    }

    private static void faceIsTrueOfWhatIsNotThere() {
        check.sentence("41: Throws NoSuchElementException if the shape does not have it");
        Works x = new Works();
        x.full(ALL, true, 1);
        x.put(2, 64);
        check.refuses("the least of none", x, ABSENT, () -> x.faceIsTrue(0, 1));
        check.refuses("the greatest of none", x, ABSENT, () -> x.faceIsTrue(5, ALL));
        check.refuses("all of the rim", x, ABSENT, () -> x.faceIsTrue(1, ALL));
        check.refuses("another corner", x, ABSENT, () -> x.faceIsTrue(2, 32));
        check.refuses("an edge of it", x, ABSENT, () -> x.faceIsTrue(2, 65));
    }

    private static void pairIsTrueOfEachScene() {
        check.sentence("42: (8) of the theorem for two shapes");
        for (Scene scene : Scene.EDGES) {
            for (int place = 0; place < Works.PLACES; place++) {
                for (int other = 0; other < Works.PLACES; other++) {
                    int one = place;
                    int two = other;
                    Works x = scene.newWorks();
                    holds(scene.name() + " " + one + " " + two, x, () -> x.pairIsTrue(one, two));
                }
            }
        }
    }

    private static void pairIsTrueAtOnePlace() {
        check.sentence("42: it may be the same place");
        for (int[] greatest : Samples.SHAPES) {
            Works x = Check.worksWith(3, greatest);
            holds("with itself", x, () -> x.pairIsTrue(3, 3));
        }
    }

    private static void pairIsTrueOfOneCornerTogether() {
        check.sentence("42: (6), if all that they have together is one corner");
        for (int one = 1; one <= ALL; one++) {
            for (int other = 1; other <= ALL; other += 5) {
                if (Integer.bitCount(one & other) == 1) {
                    Works x = new Works();
                    x.full(one, Integer.bitCount(one) > 2, 0);
                    x.full(other, Integer.bitCount(other) > 1, 5);
                    int a = one;
                    int b = other;
                    check.answers(a + " and " + b, true, () -> x.pairIsTrue(0, 5));
                    check.answers(b + " and " + a, true, () -> x.pairIsTrue(5, 0));
                }
            }
        }
        Works x = Check.worksWith(0, 64);
        x.put(1, 64);
        holds("the same lone corner", x, () -> x.pairIsTrue(0, 1));
    }
}
