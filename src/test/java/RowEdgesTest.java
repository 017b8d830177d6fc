import java.util.ArrayList;
import java.util.List;

/** Promises 30 to 35: each sentence that names an edge, by a test of its own. */
public final class RowEdgesTest {
    private static final Class<IndexOutOfBoundsException> NO_PLACE = IndexOutOfBoundsException.class;
    private static final Class<IllegalArgumentException> BAD = IllegalArgumentException.class;
    private static final Class<IllegalStateException> STATE = IllegalStateException.class;
    private static final int ALL = 127;
    private static final int[] NO_FACES = {0, -1, 128, 129, 255, Integer.MIN_VALUE, Integer.MAX_VALUE};
    private static final int[] FULL_OF = {7, 21, 35, 35, 21, 7, 1};

    private static final Check check = new Check("RowEdgesTest");

    public static void main(String[] args) {
        flipPutsIn();
        flipTakesOut();
        flipOfAnotherHeight();
        flipOfAnyHeightAgain();
        flipOfNoFace();
        flipAllOfAHeight();
        borderOfNone();
        borderOfCorners();
        borderOfTheGreatest();
        borderOfAllOfAHeight();
        dropOfEach();
        rowAtBothEnds();
        rowAtBeyond();
        rowAtInOrder();
        isRoundWithoutFaces();
        isRoundOfEachHeight();
        fillsWithoutFaces();
        fillsOfTheGreatest();
        fillsOfCorners();
        fillsOfTheRim();
        fillsOfWhatIsNotThere();
        shapesDoNotTouchTheRow();
        check.end();
    }

    private static Works withRow(int... faces) {
        Works x = new Works();
        for (int face : faces) {
            x.flip(face);
        }
        return x;
    }

    private static int[] allOf(int height) {
        List<Integer> faces = new ArrayList<>();
        for (int face = 1; face <= ALL; face++) {
            if (Integer.bitCount(face) == height + 1) {
                faces.add(face);
            }
        }
        return faces.stream().mapToInt(face -> face).toArray();
    }

    private static void row(String what, Works x, Integer... due) {
        check.same(what, List.of(due), x.rowFaces());
    }

    private static void flipPutsIn() {
        check.sentence("30: Puts a face into the row; face 1 to 127");
        for (int face = 1; face <= ALL; face++) {
            Works x = new Works();
            check.same("flip " + face, 1, x.flip(face));
            row("with " + face, x, face);
        }
    }

    private static void flipTakesOut() {
        check.sentence("30: or takes it out, if the row has it; returns how many faces the row has then");
        for (int face = 1; face <= ALL; face++) {
            Works x = withRow(face);
            check.same("flip " + face + " again", 0, x.flip(face));
            row("without " + face, x);
            check.same("flip " + face + " a third time", 1, x.flip(face));
        }
        Works x = withRow(1, 64, 8);
        check.answers("flip the greatest out", 2, () -> x.flip(64));
        row("without the greatest", x, 1, 8);
        check.answers("flip the least out", 1, () -> x.flip(1));
        row("without the least", x, 8);
    }

    private static void flipOfAnotherHeight() {
        check.sentence("30: Throws IllegalStateException if the row has faces, of another height");
        for (int has = 0; has < 7; has++) {
            for (int face = 1; face <= ALL; face++) {
                int height = Integer.bitCount(face) - 1;
                int each = face;
                if (height != has) {
                    Works x = withRow((1 << has + 1) - 1);
                    check.refuses("flip " + face + " to one of " + has, x, STATE, () -> x.flip(each));
                }
            }
        }
    }

    private static void flipOfAnyHeightAgain() {
        check.sentence("30: a row without faces has no height");
        for (int face = 1; face <= ALL; face++) {
            int each = face;
            Works x = withRow(ALL, ALL);
            check.same("flip " + face + " after the last one is out", 1, x.flip(each));
            Works dropped = withRow(3, 96);
            dropped.drop();
            check.same("flip " + face + " after a drop", 1, dropped.flip(each));
            Works bordered = withRow(1);
            bordered.border();
            check.same("flip " + face + " after the border of a corner", 1, bordered.flip(each));
        }
    }

    private static void flipOfNoFace() {
        check.sentence("30: Throws IllegalArgumentException if there is no such face, also where the row has faces");
        for (int bad : NO_FACES) {
            Works none = new Works();
            check.refuses("to none " + bad, none, BAD, () -> none.flip(bad));
            Works corner = withRow(1);
            check.refuses("to a corner " + bad, corner, BAD, () -> corner.flip(bad));
            Works greatest = withRow(ALL);
            check.refuses("to the greatest " + bad, greatest, BAD, () -> greatest.flip(bad));
        }
    }

    private static void flipAllOfAHeight() {
        check.sentence("30: Returns how many faces the row has then");
        for (int height = 0; height < 7; height++) {
            Works x = new Works();
            int many = 0;
            for (int face : allOf(height)) {
                many++;
                check.same("flip " + face, many, x.flip(face));
            }
            for (int face : allOf(height)) {
                many--;
                check.same("flip " + face + " out", many, x.flip(face));
            }
            row("none", x);
        }
    }

    private static void borderOfNone() {
        check.sentence("31: the border of no faces has none");
        Works x = new Works();
        check.answers("of none", 0, () -> x.border());
        check.answers("again", 0, () -> x.border());
        row("none", x);
    }

    private static void borderOfCorners() {
        check.sentence("31: the border of a corner is nothing");
        for (int corner = 0; corner < 7; corner++) {
            Works x = withRow(1 << corner);
            check.answers("of one", 0, () -> x.border());
            row("none", x);
        }
        Works x = withRow(allOf(0));
        check.answers("of all", 0, () -> x.border());
        row("none of all", x);
        check.answers("the row has no height then", 1, () -> x.flip(ALL));
    }

    private static void borderOfTheGreatest() {
        check.sentence("31: the faces that lack just one of its corners");
        Works x = withRow(ALL);
        check.answers("of the face of the height 6", 7, () -> x.border());
        row("its border", x, 63, 95, 111, 119, 123, 125, 126);
        check.answers("of its border", 0, () -> x.border());
        row("nothing", x);
        for (int face = 1; face <= ALL; face++) {
            Works one = withRow(face);
            int corners = Integer.bitCount(face);
            check.same("of " + face, corners == 1 ? 0 : corners, one.border());
        }
    }

    private static void borderOfAllOfAHeight() {
        check.sentence("31: each face that an odd number of the borders of its faces have");
        for (int height = 0; height < 7; height++) {
            Works x = withRow(allOf(height));
            int inHowMany = 7 - height;
            int due = height > 0 && inHowMany % 2 == 1 ? FULL_OF[height - 1] : 0;
            check.same("of all of " + height, due, x.border());
            check.same("of all of " + height + " then", due, x.rowFaces().size());
        }
    }

    private static void dropOfEach() {
        check.sentence("32: Takes all faces out of the row, returns how many there were");
        Works none = new Works();
        check.answers("none", 0, () -> none.drop());
        row("none stays", none);
        for (int height = 0; height < 7; height++) {
            Works x = withRow(allOf(height));
            check.answers("all of " + height, FULL_OF[height], () -> x.drop());
            row("none of " + height, x);
            check.answers("again", 0, () -> x.drop());
        }
    }

    private static void rowAtBothEnds() {
        check.sentence("33: index: from 0 on");
        for (int height = 0; height < 7; height++) {
            int[] faces = allOf(height);
            Works x = withRow(faces);
            check.tells("the first of " + height, x, faces[0], () -> x.rowAt(0));
            int last = faces.length - 1;
            check.tells("the last of " + height, x, faces[last], () -> x.rowAt(last));
        }
    }

    private static void rowAtBeyond() {
        check.sentence("33: Throws IndexOutOfBoundsException if the row has no such face");
        for (int height = 0; height < 7; height++) {
            int[] faces = allOf(height);
            Works x = withRow(faces);
            for (int bad : new int[] {-1, faces.length, 64, 127, 128, Integer.MIN_VALUE, Integer.MAX_VALUE}) {
                check.refuses("all of " + height + " at " + bad, x, NO_PLACE, () -> x.rowAt(bad));
            }
        }
        Works none = new Works();
        for (int bad : new int[] {0, -1, 1, Integer.MIN_VALUE, Integer.MAX_VALUE}) {
            check.refuses("none at " + bad, none, NO_PLACE, () -> none.rowAt(bad));
        }
    }

    private static void rowAtInOrder() {
        check.sentence("33: in the order of their numbers");
        for (int height = 0; height < 7; height++) {
            int[] faces = allOf(height);
            Works x = new Works();
            List<Integer> due = new ArrayList<>();
            for (int index = faces.length - 1; index >= 0; index--) {
                x.flip(faces[index]);
                due.add(0, faces[index]);
            }
            check.same("all of " + height, due, x.rowFaces());
        }
    }

    private static void isRoundWithoutFaces() {
        check.sentence("34: Returns whether it is, also without faces");
        Works x = new Works();
        check.tells("a new row", x, true, () -> x.isRound());
        Works dropped = withRow(ALL);
        dropped.drop();
        check.tells("a dropped row", dropped, true, () -> dropped.isRound());
    }

    private static void isRoundOfEachHeight() {
        check.sentence("34: a row is round if its border is nothing");
        for (int face = 1; face <= ALL; face++) {
            Works x = withRow(face);
            boolean isCorner = Integer.bitCount(face) == 1;
            check.tells("one face " + face, x, isCorner, () -> x.isRound());
            x.border();
            check.tells("the border of " + face, x, true, () -> x.isRound());
        }
        Works corners = withRow(allOf(0));
        check.tells("all corners", corners, true, () -> corners.isRound());
    }

    private static void fillsWithoutFaces() {
        check.sentence("35: Returns whether it does, also without faces");
        for (Scene scene : Scene.EDGES) {
            for (int place = 0; place < Works.PLACES; place++) {
                int each = place;
                Works x = scene.newWorks();
                x.drop();
                check.tells(scene.name() + " at " + place, x, true, () -> x.fills(each));
            }
        }
    }

    private static void fillsOfTheGreatest() {
        check.sentence("35: no face is of the height 7: the face of the height 6 is no border");
        Works x = withRow(ALL);
        x.full(ALL, false, 0);
        x.full(ALL, true, 1);
        check.tells("in the full", x, false, () -> x.fills(0));
        check.refuses("in the rim", x, STATE, () -> x.fills(1));
        check.refuses("in none", x, STATE, () -> x.fills(2));
    }

    private static void fillsOfCorners() {
        check.sentence("35: the row is the border of a row of faces of the shape, of one height more");
        for (int corner = 0; corner < 7; corner++) {
            int face = 1 << corner;
            Works x = withRow(face);
            x.full(ALL, false, 0);
            x.put(1, face);
            check.tells("one corner in the full", x, false, () -> x.fills(0));
            check.tells("one corner alone", x, false, () -> x.fills(1));
            int second = face == 64 ? 1 : 2 * face;
            x.flip(second);
            x.full(face + second, true, 2);
            x.full(face + second, false, 3);
            check.tells("two corners in the full", x, true, () -> x.fills(0));
            check.tells("two corners not joined", x, false, () -> x.fills(2));
            check.tells("two corners joined", x, true, () -> x.fills(3));
            check.refuses("one of two corners", x, STATE, () -> x.fills(1));
        }
    }

    private static void fillsOfTheRim() {
        check.sentence("35: the border of the greatest face fills in the full shape, not in the rim");
        Works x = withRow(ALL);
        x.border();
        x.full(ALL, false, 0);
        x.full(ALL, true, 5);
        check.tells("in the full", x, true, () -> x.fills(0));
        check.tells("in the rim", x, false, () -> x.fills(5));
        x.flip(63);
        check.tells("six of seven in the full", x, false, () -> x.fills(0));
        check.tells("six of seven in the rim", x, false, () -> x.fills(5));
    }

    private static void fillsOfWhatIsNotThere() {
        check.sentence("35: Throws IllegalStateException if the shape does not have all faces of the row");
        Works x = withRow(1, 64);
        x.put(0, 1);
        x.put(1, 64);
        x.put(2, 62);
        check.refuses("only the first", x, STATE, () -> x.fills(0));
        check.refuses("only the second", x, STATE, () -> x.fills(1));
        check.refuses("none of both", x, STATE, () -> x.fills(2));
        check.refuses("a shape without faces", x, STATE, () -> x.fills(3));
        check.refuses("no place comes first", x, NO_PLACE, () -> x.fills(-1));
        check.refuses("no place comes first again", x, NO_PLACE, () -> x.fills(6));
    }

    private static void shapesDoNotTouchTheRow() {
        check.sentence("30 to 35: a row is a set of faces by itself, of no shape");
        Works x = withRow(3, 96);
        x.full(ALL, false, 0);
        x.take(0, 1);
        x.clear(0);
        row("it stays", x, 3, 96);
        x.put(1, 7);
        x.border();
        check.same("the shape stays", List.of(1, 2, 3, 4, 5, 6, 7), x.facesAt(1));
        row("the border", x, 1, 2, 32, 64);
    }
}
