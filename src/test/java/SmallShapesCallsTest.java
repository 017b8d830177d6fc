import java.util.ArrayList;
import java.util.List;

/** Each call on each shape over four corners, and each row of each such shape: as the slow model answers it. */
public final class SmallShapesCallsTest {
    private static final int CORNERS = 4;
    private static final int FACES = 15;

    private static final Check check = new Check("SmallShapesCallsTest");

    public static void main(String[] args) {
        for (int shape : SmallShapesTest.allShapes()) {
            for (Calls.Call call : Calls.ALL) {
                eachCall(call, shape, new int[call.kinds().size()], 0);
            }
            for (int height = 0; height < CORNERS; height++) {
                eachRow(shape, height);
            }
        }
        check.end();
    }

    private static Works worksWith(int shape) {
        Works works = new Works();
        SmallShapesTest.fill(works, 0, shape);
        works.put(1, 80);
        works.flip(6);
        works.flip(9);
        return works;
    }

    private static Model modelWith(int shape) {
        Model model = new Model();
        for (int face = 1; face <= FACES; face++) {
            if ((shape >> face & 1) == 1) {
                model.put(0, face);
            }
        }
        model.put(1, 80);
        model.flip(6);
        model.flip(9);
        return model;
    }

    private static void eachCall(Calls.Call call, int shape, int[] values, int index) {
        if (index == values.length) {
            oneCall(call, shape, values);
            return;
        }
        for (int value : someOf(call.kinds().get(index), index)) {
            values[index] = value;
            eachCall(call, shape, values, index + 1);
        }
    }

    /** Enough of each kind to reach all of four corners, and one corner beside them. */
    private static int[] someOf(Calls.Kind kind, int index) {
        return switch (kind) {
            case PLACE -> index == 0 ? new int[] {0} : new int[] {0, 1};
            case FACE -> new int[] {1, 2, 3, 4, 5, 6, 7, 8, 9, 10, 11, 12, 13, 14, 15, 16, 31};
            case CORNER -> new int[] {0, 1, 2, 3, 5};
            case HEIGHT -> new int[] {0, 1, 2, 3, 4};
            case FREE_HEIGHT -> new int[] {1, 2, 3, 4};
            case INDEX -> new int[] {0, 1, 2, 3, 4, 5, 6};
            case FLAG -> new int[] {0, 1};
        };
    }

    private static void oneCall(Calls.Call call, int shape, int[] values) {
        Works works = worksWith(shape);
        Model model = modelWith(shape);
        String what = call.with(values) + " with the shape " + shape;
        check.same(what, call.ofModel(model, values), call.ofProgram(works, values));
        check.same(what + " then", model.checksum(), works.checksum());
    }

    private static void eachRow(int shape, int height) {
        List<Integer> faces = new ArrayList<>();
        for (int face = 1; face <= FACES; face++) {
            if (Integer.bitCount(face) == height + 1 && (shape >> face & 1) == 1) {
                faces.add(face);
            }
        }
        for (int chosen = 0; chosen < 1 << faces.size(); chosen++) {
            oneRow(shape, faces, chosen);
        }
    }

    private static void oneRow(int shape, List<Integer> faces, int chosen) {
        Works works = worksWith(shape);
        Model model = modelWith(shape);
        works.drop();
        model.drop();
        for (int index = 0; index < faces.size(); index++) {
            if ((chosen >> index & 1) == 1) {
                check.same("flip", model.flip(faces.get(index)), works.flip(faces.get(index)));
            }
        }
        String what = " of the row " + model.kept().get(Works.PLACES) + " with the shape " + shape;
        check.same("fills" + what, model.fills(0), works.fills(0));
        check.same("sound" + what, true, works.isSound(0));
        check.same("round" + what, model.isRound(), works.isRound());
        check.same("border" + what, model.border(), works.border());
        check.same("checksum" + what, model.checksum(), works.checksum());
    }
}
