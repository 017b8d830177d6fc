import java.util.ArrayList;
import java.util.List;

/**
 * Parts 3 and 4 by their own words, on all shapes over four corners and all rows of each: what is free, what fills
 * and what is joined is found by trying everything, without any of the ways by which the program finds it. A set of
 * faces is an int here, with a bit for each face.
 */
public final class DefinitionsTest {
    private static final int CORNERS = 4;
    private static final int HEIGHTS = 7;

    private static final Check check = new Check("DefinitionsTest");

    public static void main(String[] args) {
        for (int shape : SmallShapesTest.allShapes()) {
            freeByTryingAll(shape);
            holesByTheirSum(shape);
            piecesByTheirCorners(shape);
            for (int height = 0; height < CORNERS; height++) {
                for (int row : subsetsOf(ofHeight(shape, height))) {
                    rowByTryingAll(shape, row, height);
                }
            }
        }
        holesOfGreaterShapes();
        check.end();
    }

    private static Works worksWith(int shape) {
        Works works = new Works();
        SmallShapesTest.fill(works, 0, shape);
        return works;
    }

    private static int ofHeight(int shape, int height) {
        int found = 0;
        for (int face : facesOf(shape)) {
            found |= Integer.bitCount(face) == height + 1 ? 1 << face : 0;
        }
        return found;
    }

    private static List<Integer> facesOf(int set) {
        List<Integer> faces = new ArrayList<>();
        for (int face = 1; face < 1 << CORNERS; face++) {
            if ((set >> face & 1) == 1) {
                faces.add(face);
            }
        }
        return faces;
    }

    private static List<Integer> subsetsOf(int set) {
        List<Integer> subsets = new ArrayList<>();
        for (int subset = 0; subset <= set; subset++) {
            if ((subset & ~set) == 0) {
                subsets.add(subset);
            }
        }
        return subsets;
    }

    /** Each face that lacks just one corner, in as many borders as there are: taken if their number is odd. */
    private static int borderOf(int row) {
        int border = 0;
        for (int part = 1; part < 1 << CORNERS; part++) {
            int many = 0;
            for (int face : facesOf(row)) {
                boolean lacksOne = (part & ~face) == 0 && Integer.bitCount(face) == Integer.bitCount(part) + 1;
                many += lacksOne ? 1 : 0;
            }
            border |= many % 2 == 1 ? 1 << part : 0;
        }
        return border;
    }

    /** The borders of these faces are free of one another if no one or more of them add up to nothing. */
    private static boolean areFree(int faces) {
        for (int some : subsetsOf(faces)) {
            if (some != 0 && borderOf(some) == 0) {
                return false;
            }
        }
        return true;
    }

    private static int greatestFree(int shape, int height) {
        int most = 0;
        for (int faces : subsetsOf(ofHeight(shape, height))) {
            if (Integer.bitCount(faces) > most && areFree(faces)) {
                most = Integer.bitCount(faces);
            }
        }
        return most;
    }

    private static void freeByTryingAll(int shape) {
        check.sentence("Part 3: free of one another if no one or more of them add up to nothing; the greatest number");
        for (int height = 1; height < HEIGHTS; height++) {
            check.same(height + " of " + facesOf(shape), greatestFree(shape, height), worksWith(shape).free(0, height));
        }
    }

    private static void holesByTheirSum(int shape) {
        check.sentence("Part 3: F(k) - R(k) - R(k + 1), those of the height 0 are F(0) - 1 - R(1); without faces none");
        for (int height = 0; height < HEIGHTS; height++) {
            int below = height == 0 ? 1 : greatestFree(shape, height);
            int sum = Integer.bitCount(ofHeight(shape, height)) - below - greatestFree(shape, height + 1);
            int due = shape == 0 ? 0 : sum;
            check.same(height + " of " + facesOf(shape), due, worksWith(shape).holes(0, height));
        }
    }

    /** The same sum, of what the other calls tell, on shapes over up to seven corners. */
    private static void holesOfGreaterShapes() {
        check.sentence("Part 3: F(k) - R(k) - R(k + 1); R(7) is 0");
        for (int[] greatest : Samples.SHAPES) {
            Works works = Check.worksWith(0, greatest);
            for (int height = 0; height < HEIGHTS; height++) {
                int below = height == 0 ? 1 : works.free(0, height);
                int above = height == 6 ? 0 : works.free(0, height + 1);
                int due = greatest.length == 0 ? 0 : works.faces(0, height) - below - above;
                check.same(height + " of " + works.facesAt(0), due, works.holes(0, height));
            }
        }
    }

    private static void piecesByTheirCorners(int shape) {
        check.sentence("Part 4: joined if one comes from the one to the other by faces of the height 1; a piece");
        Works works = worksWith(shape);
        int firstOnes = 0;
        for (int one = 0; one < CORNERS; one++) {
            boolean isFirst = (shape >> (1 << one) & 1) == 1;
            for (int other = 0; other < CORNERS; other++) {
                if ((shape >> (1 << one) & shape >> (1 << other) & 1) == 1) {
                    boolean due = isWay(shape, one, other, 0);
                    isFirst &= !(due && other < one);
                    check.same(one + " and " + other + " of " + facesOf(shape), due, works.areJoined(0, one, other));
                }
            }
            firstOnes += isFirst ? 1 : 0;
        }
        check.same("pieces of " + facesOf(shape), firstOnes, works.pieces(0));
    }

    /** Every way that comes to no corner twice. */
    private static boolean isWay(int shape, int from, int to, int seen) {
        if (from == to) {
            return true;
        }
        for (int next = 0; next < CORNERS; next++) {
            boolean isStep = next != from && (shape >> (1 << from | 1 << next) & 1) == 1;
            if (isStep && (seen >> next & 1) == 0 && isWay(shape, next, to, seen | 1 << from)) {
                return true;
            }
        }
        return false;
    }

    private static boolean isBorderOfSome(int row, int shape, int height) {
        for (int faces : subsetsOf(ofHeight(shape, height))) {
            if (borderOf(faces) == row) {
                return true;
            }
        }
        return false;
    }

    private static void rowByTryingAll(int shape, int row, int height) {
        Works works = worksWith(shape);
        for (int face : facesOf(row)) {
            works.flip(face);
        }
        String what = facesOf(row) + " of " + facesOf(shape);
        check.sentence("Part 3: it is the border of a row of faces of the shape, of one height more, perhaps of none");
        boolean isFilling = row == 0 || isBorderOfSome(row, shape, height + 1);
        check.same("fills: " + what, isFilling, works.fills(0));
        check.sentence("Part 3: a row is round if its border is nothing");
        int border = borderOf(row);
        check.same("round: " + what, border == 0, works.isRound());
        check.sentence("Part 3: each face that an odd number of the borders of its faces have");
        check.same("border: " + what, Integer.bitCount(border), works.border());
        check.same("its faces: " + what, facesOf(border), works.rowFaces());
    }
}
