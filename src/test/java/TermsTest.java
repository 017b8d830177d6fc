import java.util.ArrayList;
import java.util.List;

/** The terms: each sentence of Parts 1 to 4 that names an edge, and (1) to (11) of the theorem told by other calls. */
public final class TermsTest {
    private static final int ALL = 127;
    private static final int HEIGHTS = 7;

    private static final Check check = new Check("TermsTest");

    public static void main(String[] args) {
        faceHasItsHeight();
        partsStayTogether();
        placesAreByThemselves();
        theorem1Rows();
        theorem1RowsInShapes();
        theorem11Rims();
        for (int[] greatest : Samples.SHAPES) {
            theorem2Pieces(greatest);
            theorem3Signed(greatest);
            theorem4Cone(greatest);
            theorem4About(greatest);
            theorem5Lift(greatest);
            theorem7Fold(greatest);
            theorem7Taking(greatest);
            theorem9Other(greatest);
            theorem10Exchange(greatest);
            for (int[] second : Samples.SHAPES) {
                theorem6Touching(greatest, second);
                theorem8Sums(greatest, second);
            }
        }
        check.end();
    }

    private static List<Integer> holes(Works x, int place) {
        List<Integer> holes = new ArrayList<>();
        for (int height = 0; height < HEIGHTS; height++) {
            holes.add(x.holes(place, height));
        }
        return holes;
    }

    private static List<Integer> faces(Works x, int place) {
        List<Integer> faces = new ArrayList<>();
        for (int height = 0; height < HEIGHTS; height++) {
            faces.add(x.faces(place, height));
        }
        return faces;
    }

    private static List<Integer> none() {
        return List.of(0, 0, 0, 0, 0, 0, 0);
    }

    private static List<Integer> sums(List<Integer> one, List<Integer> other) {
        List<Integer> sums = new ArrayList<>();
        for (int height = 0; height < HEIGHTS; height++) {
            sums.add(one.get(height) + other.get(height));
        }
        return sums;
    }

    private static List<Integer> changed(List<Integer> holes, int height, int more) {
        List<Integer> changed = new ArrayList<>(holes);
        changed.set(height, changed.get(height) + more);
        return changed;
    }

    private static void faceHasItsHeight() {
        check.sentence("Part 1: its height is one less than how many corners it has");
        for (int face = 1; face <= ALL; face++) {
            Works x = Check.worksWith(0, face);
            int height = Integer.bitCount(face) - 1;
            check.same("one of its height " + face, 1, x.faces(0, height));
            for (int above = height + 1; above < HEIGHTS; above++) {
                check.same("none above " + face, 0, x.faces(0, above));
            }
        }
    }

    private static void partsStayTogether() {
        check.sentence("Part 1: a shape has with each face all of its parts");
        for (Calls.Call call : Calls.ALL.subList(0, 14)) {
            for (Scene scene : Scene.MIDDLE) {
                for (int number = 0; number < 60; number++) {
                    Works x = scene.newWorks();
                    call.ofProgram(x, someValues(call, number));
                    allHaveTheirParts(call.name() + " " + number, x);
                }
            }
        }
    }

    private static int[] someValues(Calls.Call call, int number) {
        int[] values = new int[call.kinds().size()];
        for (int index = 0; index < values.length; index++) {
            Calls.Kind kind = call.kinds().get(index);
            values[index] = kind.least + (number * 7 + index * 3) % (kind.most - kind.least + 1);
        }
        return values;
    }

    private static void allHaveTheirParts(String what, Works x) {
        for (int place = 0; place < Works.PLACES; place++) {
            List<Integer> faces = x.facesAt(place);
            for (int face : faces) {
                for (int part = 1; part < face; part++) {
                    if ((part & ~face) == 0) {
                        check.same(what + ": " + face + " and " + part, true, faces.contains(part));
                    }
                }
            }
        }
    }

    private static void placesAreByThemselves() {
        check.sentence("Part 1: at each of the places 0 to 5 there is a shape");
        Works x = new Works();
        int[] all = {1, 6, 28, 96, 65, 127};
        for (int place = 0; place < Works.PLACES; place++) {
            x.put(place, all[place]);
        }
        for (int place = 0; place < Works.PLACES; place++) {
            check.same("corners at " + place, all[place], x.corners(place));
            check.same("greatest at " + place, all[place], x.greatestAt(place, 0));
        }
    }

    private static void theorem1Rows() {
        check.sentence("(1) The border of the border of a row is nothing");
        for (int[] row : Samples.ROWS) {
            Works x = new Works();
            Check.setRow(x, row);
            x.border();
            check.answers("its border is round", true, () -> x.isRound());
            check.answers("the border of its border", 0, () -> x.border());
        }
    }

    private static void theorem1RowsInShapes() {
        check.sentence("(1) A row that fills is round; one that is round fills, where there is no hole of its height");
        for (int[] row : Samples.ROWS) {
            for (int[] greatest : Samples.SHAPES) {
                Works x = Check.worksWith(0, greatest);
                Check.setRow(x, row);
                if (row.length > 0 && x.facesAt(0).containsAll(x.rowFaces())) {
                    int height = Integer.bitCount(row[0]) - 1;
                    if (height == 0) {
                        cornersFill(x, row);
                    } else {
                        rowFills(x, height);
                    }
                }
            }
        }
    }

    private static void rowFills(Works x, int height) {
        boolean isFilling = x.fills(0);
        boolean isRound = x.isRound();
        check.same("it is round if it fills", true, isRound || !isFilling);
        if (x.holes(0, height) == 0) {
            check.same("it fills if it is round", isRound, isFilling);
        }
    }

    private static void cornersFill(Works x, int[] row) {
        boolean areEven = true;
        for (int face : row) {
            int joined = 0;
            for (int other : row) {
                int one = Integer.numberOfTrailingZeros(face);
                joined += x.areJoined(0, one, Integer.numberOfTrailingZeros(other)) ? 1 : 0;
            }
            areEven &= joined % 2 == 0;
        }
        check.same("just if each piece has an even number of them", areEven, x.fills(0));
    }

    private static void theorem2Pieces(int[] greatest) {
        check.sentence("(2) as many pieces as corners less free borders; one more than holes of the height 0");
        Works x = Check.worksWith(0, greatest);
        if (greatest.length > 0) {
            check.same("corners less free borders", x.faces(0, 0) - x.free(0, 1), x.pieces(0));
            check.same("one more than holes", x.holes(0, 0) + 1, x.pieces(0));
        }
    }

    private static void theorem3Signed(int[] greatest) {
        check.sentence("(3) the number of its faces is one more than the number of its holes, with signs");
        Works x = Check.worksWith(0, greatest);
        List<Integer> holes = holes(x, 0);
        int sum = greatest.length > 0 ? 1 : 0;
        for (int height = 0; height < HEIGHTS; height++) {
            sum += height % 2 == 0 ? holes.get(height) : -holes.get(height);
        }
        check.same("signed", sum, x.signed(0));
    }

    private static void theorem4Cone(int[] greatest) {
        check.sentence("(4) one new corner joined to all faces: no holes, and one piece");
        for (int corner = 0; corner < 7; corner++) {
            Works x = Check.worksWith(0, greatest);
            if ((x.corners(0) >> corner & 1) == 0) {
                int size = x.size(0);
                check.same("size", 2 * size + 1, x.cone(0, corner, 1));
                check.same("holes", none(), holes(x, 1));
                check.same("pieces", 1, x.pieces(1));
            }
        }
    }

    private static void theorem4About(int[] greatest) {
        check.sentence("(4) the faces about a face have no holes either, and one piece");
        for (int face : Check.worksWith(0, greatest).facesAt(0)) {
            Works x = Check.worksWith(0, greatest);
            x.about(0, face, false, 1);
            check.same("holes about " + face, none(), holes(x, 1));
            check.same("pieces about " + face, 1, x.pieces(1));
        }
    }

    private static void theorem5Lift(int[] greatest) {
        check.sentence("(5) each hole is lifted by one height, and there is none of the height 0");
        Works x = Check.worksWith(0, greatest);
        int unused = ALL & ~x.corners(0);
        if (greatest.length > 0 && Integer.bitCount(unused) >= 2) {
            List<Integer> due = new ArrayList<>(holes(x, 0).subList(0, 6));
            due.add(0, 0);
            int one = Integer.numberOfTrailingZeros(unused);
            int other = 31 - Integer.numberOfLeadingZeros(unused);
            x.lift(0, one, other, 0);
            check.same("holes", due, holes(x, 0));
        }
    }

    private static void theorem6Touching(int[] greatest, int[] second) {
        check.sentence("(6) the holes of both laid together are the sums of theirs");
        Works x = Check.worksWith(0, greatest);
        Check.putAll(x, 1, second);
        if (x.meet(0, 1, 2) == 1) {
            x.unite(0, 1, 2);
            check.same("holes", sums(holes(x, 0), holes(x, 1)), holes(x, 2));
        }
    }

    private static void theorem7Fold(int[] greatest) {
        check.sentence("(7) If a face lies in just one greater face, the two taken away change no hole");
        for (int face : Check.worksWith(0, greatest).facesAt(0)) {
            Works x = Check.worksWith(0, greatest);
            List<Integer> before = holes(x, 0);
            int size = x.size(0);
            if (x.over(0, face) == 1) {
                int other = x.fold(0, face);
                check.same("the other of " + face, true, other != face && (other & face) == face);
                check.same("holes without " + face, before, holes(x, 0));
                check.same("size without " + face, size - 2, x.size(0));
            }
        }
    }

    private static void theorem7Taking(int[] greatest) {
        check.sentence("(7) one hole of the height k less, or one hole of the height k - 1 more; all others stay");
        int many = Check.worksWith(0, greatest).greatest(0);
        for (int index = 0; index < many; index++) {
            Works x = Check.worksWith(0, greatest);
            List<Integer> before = holes(x, 0);
            int face = x.greatestAt(0, index);
            int height = Integer.bitCount(face) - 1;
            check.same("one is gone", 1, x.take(0, face));
            List<Integer> after = holes(x, 0);
            if (x.size(0) > 0) {
                boolean isLess = after.equals(changed(before, height, -1));
                boolean isMore = height > 0 && after.equals(changed(before, height - 1, 1));
                check.same("without " + face, true, isLess || isMore);
            }
        }
    }

    private static void theorem8Sums(int[] greatest, int[] second) {
        check.sentence("(8) together and at least one, added up, have of each height as many faces as both");
        Works x = Check.worksWith(0, greatest);
        Check.putAll(x, 1, second);
        x.meet(0, 1, 2);
        x.unite(0, 1, 3);
        check.same("faces", sums(faces(x, 0), faces(x, 1)), sums(faces(x, 2), faces(x, 3)));
    }

    private static void theorem9Other(int[] greatest) {
        check.sentence("(9) as many holes of the height m - 3 - k as the shape has of the height k");
        Works x = Check.worksWith(0, greatest);
        for (int corners : new int[] {x.corners(0), ALL}) {
            int among = Integer.bitCount(corners);
            boolean isFullOrRim = x.size(0) >= (1 << among) - 2;
            if (greatest.length > 0 && among >= 2 && !isFullOrRim) {
                x.other(0, corners, 1);
                check.same("holes over " + corners, turned(holes(x, 0), among - 3), holes(x, 1));
            }
            if (corners > 0 && !x.has(0, corners)) {
                x.other(0, corners, 1);
                x.other(1, corners, 1);
                check.same("the other of the other over " + corners, true, x.isSame(0, 1));
            }
        }
    }

    private static List<Integer> turned(List<Integer> holes, int top) {
        List<Integer> turned = new ArrayList<>();
        for (int height = 0; height < HEIGHTS; height++) {
            check.same("no hole above", true, height <= top || holes.get(height) == 0);
            turned.add(height <= top ? holes.get(top - height) : 0);
        }
        return turned;
    }

    private static void theorem10Exchange(int[] greatest) {
        check.sentence("(10) as many faces and holes of each height, and as many pieces");
        for (int one = 0; one < 7; one++) {
            for (int other = 0; other < 7; other++) {
                Works x = Check.worksWith(0, greatest);
                x.exchange(0, one, other, 1);
                check.same("faces", faces(x, 0), faces(x, 1));
                check.same("holes", holes(x, 0), holes(x, 1));
                check.same("pieces", x.pieces(0), x.pieces(1));
            }
        }
    }

    private static void theorem11Rims() {
        check.sentence("(11) The rim of m corners, m from 2 on, has one hole, of the height m - 2, and no other");
        for (int corners = 1; corners <= ALL; corners++) {
            int many = Integer.bitCount(corners);
            Works x = new Works();
            x.full(corners, true, 0);
            check.same("the rim of " + corners, many < 2 ? none() : changed(none(), many - 2, 1), holes(x, 0));
        }
    }
}
