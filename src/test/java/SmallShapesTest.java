import java.util.ArrayList;
import java.util.List;

/** All shapes over four corners, wherever these corners are: their holes, and the theorem for each and each two. */
public final class SmallShapesTest {
    private static final int[] FIRST = {0, 1, 2, 3};
    private static final int[] SPREAD = {6, 0, 5, 2};

    private static final Check check = new Check("SmallShapesTest");

    public static void main(String[] args) {
        List<Integer> shapes = allShapes();
        check.same("how many shapes", 167, shapes.size());
        for (int shape : shapes) {
            sameAsModel(shape, FIRST);
            sameAsModel(shape, SPREAD);
            theoremHolds(shape);
        }
        pairsHold(shapes);
        check.end();
    }

    /** Each shape over the corners 0 to 3 as a number, with a bit for each of its faces. */
    static List<Integer> allShapes() {
        List<Integer> shapes = new ArrayList<>();
        for (int bits = 0; bits < 1 << 16; bits += 2) {
            if (isClosed(bits)) {
                shapes.add(bits);
            }
        }
        return shapes;
    }

    private static boolean isClosed(int bits) {
        for (int face = 1; face < 16; face++) {
            for (int part = 1; part < face; part++) {
                if ((bits >> face & 1) == 1 && (part & face) == part && (bits >> part & 1) == 0) {
                    return false;
                }
            }
        }
        return true;
    }

    private static int named(int face, int[] names) {
        int turned = 0;
        for (int corner = 0; corner < 4; corner++) {
            turned |= (face >> corner & 1) << names[corner];
        }
        return turned;
    }

    private static void sameAsModel(int shape, int[] names) {
        Works works = new Works();
        Model model = new Model();
        for (int face = 1; face < 16; face++) {
            if ((shape >> face & 1) == 1) {
                works.put(0, named(face, names));
                model.put(0, named(face, names));
            }
        }
        String what = " of " + works.facesAt(0);
        check.same("faces" + what, Integer.bitCount(shape), works.size(0));
        check.same("pieces" + what, model.pieces(0), works.pieces(0));
        check.same("signed" + what, model.signed(0), works.signed(0));
        check.same("greatest" + what, model.greatest(0), works.greatest(0));
        for (int height = 0; height < 7; height++) {
            check.same("holes of " + height + what, model.holes(0, height), works.holes(0, height));
            int free = height == 0 ? 0 : works.free(0, height);
            check.same("free of " + height + what, height == 0 ? 0 : model.free(0, height), free);
        }
    }

    static void fill(Works works, int place, int shape) {
        works.clear(place);
        for (int face = 1; face < 16; face++) {
            if ((shape >> face & 1) == 1) {
                works.put(place, face);
            }
        }
    }

    private static void theoremHolds(int shape) {
        Works works = new Works();
        fill(works, 0, shape);
        check.same("sound " + shape, true, works.isSound(0));
        for (int corner = 0; corner < 7; corner++) {
            check.same("true " + shape, true, works.isTrue(0, 3, corner));
        }
        for (int face = 1; face < 16; face++) {
            if (works.has(0, face)) {
                check.same("true " + shape + " of " + face, true, works.faceIsTrue(0, face));
            }
        }
    }

    private static void pairsHold(List<Integer> shapes) {
        for (int one : shapes) {
            for (int other : shapes) {
                Works works = new Works();
                fill(works, 0, one);
                fill(works, 1, other);
                works.exchange(1, 0, 4, 1);
                works.exchange(1, 1, 5, 1);
                check.same("true " + one + " and " + other, true, works.pairIsTrue(0, 1));
            }
        }
    }
}
