/** All promises: long runs of mixed calls, each answered as the slow model of the document answers it. */
public final class ModelRunsTest {
    private static final int RUNS = 300;
    private static final int CALLS = 512;
    private static final int KINDS = 41;

    private final Check check = new Check("ModelRunsTest");
    private Holeworks works = new Holeworks();
    private Model model = new Model();
    private long state = 20261118L;

    public static void main(String[] args) {
        ModelRunsTest test = new ModelRunsTest();
        for (int run = 0; run < RUNS; run++) {
            test.oneRun(run);
        }
        test.check.end();
    }

    private void oneRun(int run) {
        works = new Holeworks();
        model = new Model();
        for (int call = 0; call < CALLS; call++) {
            int kind = below(4) == 0 ? below(2) * 29 : below(KINDS);
            String what = "run " + run + " call " + call + " kind " + kind;
            oneCall(what, kind);
            check.same(what + " then", model.checksum(), works.checksum());
        }
    }

    /** A number from 0 on, below a bound, always the same ones in the same order. */
    private int below(int bound) {
        state = state * 6364136223846793005L + 1442695040888963407L;
        return (int) ((state >>> 33) % bound);
    }

    private int place() {
        return below(40) == 0 ? below(2) * 7 - 1 : below(6);
    }

    private int face() {
        int kind = below(30);
        if (kind == 0) {
            return new int[] {0, 128, -1, 255}[below(4)];
        }
        int face = 1 + below(127);
        return kind < 15 ? face : Math.max(1, face & 1 + below(127));
    }

    private int small(int least, int most) {
        return below(25) == 0 ? (below(2) == 0 ? least - 1 : most + 1) : least + below(most - least + 1);
    }

    private int rowFace() {
        boolean hasRow = Check.answerOf(() -> model.rowAt(0)) instanceof Integer;
        int height = hasRow ? Model.height(model.rowAt(0)) : below(4);
        for (int tries = 0; tries < 50; tries++) {
            int face = 1 + below(127);
            if (Model.height(face) == height) {
                return face;
            }
        }
        return face();
    }

    private void both(String what, Check.Call due, Check.Call call) {
        check.same(what, Check.answerOf(due), Check.answerOf(call));
    }

    private void oneCall(String what, int kind) {
        if (kind < 15) {
            shapeCall(what, kind);
        } else if (kind < 29) {
            lookingCall(what, kind);
        } else {
            restCall(what, kind);
        }
    }

    private void shapeCall(String what, int kind) {
        int place = place();
        int to = place();
        int second = place();
        int face = face();
        int one = small(0, 6);
        int other = small(0, 6);
        boolean flag = below(2) == 0;
        switch (kind) {
            case 0 -> both(what, () -> model.put(place, face), () -> works.put(place, face));
            case 1 -> both(what, () -> model.take(place, face), () -> works.take(place, face));
            case 2 -> both(what, () -> model.clear(place), () -> works.clear(place));
            case 3 -> both(what, () -> model.copy(place, to), () -> works.copy(place, to));
            case 4 -> both(what, () -> model.unite(place, second, to), () -> works.unite(place, second, to));
            case 5 -> both(what, () -> model.meet(place, second, to), () -> works.meet(place, second, to));
            case 6 -> both(what, () -> model.full(face, flag, to), () -> works.full(face, flag, to));
            case 7 -> both(what, () -> model.low(place, one, to), () -> works.low(place, one, to));
            case 8 -> both(what, () -> model.about(place, face, flag, to), () -> works.about(place, face, flag, to));
            case 9 -> both(what, () -> model.cone(place, one, to), () -> works.cone(place, one, to));
            case 10 -> both(what, () -> model.lift(place, one, other, to), () -> works.lift(place, one, other, to));
            case 11 -> both(what, () -> model.other(place, face, to), () -> works.other(place, face, to));
            case 12 -> both(what, () -> model.other(place, 127, to), () -> works.other(place, 127, to));
            case 13 -> both(what, () -> model.exchange(place, one, other, to),
                    () -> works.exchange(place, one, other, to));
            default -> both(what, () -> model.fold(place, face), () -> works.fold(place, face));
        }
    }

    private void lookingCall(String what, int kind) {
        int place = place();
        int second = place();
        int face = face();
        int index = below(9) - 1;
        int one = small(0, 6);
        int other = small(0, 6);
        int high = small(1, 6);
        switch (kind) {
            case 15 -> both(what, () -> model.holds(place, face), () -> works.has(place, face));
            case 16 -> both(what, () -> model.size(place), () -> works.size(place));
            case 17 -> both(what, () -> model.faces(place, one), () -> works.faces(place, one));
            case 18 -> both(what, () -> model.corners(place), () -> works.corners(place));
            case 19 -> both(what, () -> model.over(place, face), () -> works.over(place, face));
            case 20 -> both(what, () -> model.greatest(place), () -> works.greatest(place));
            case 21 -> both(what, () -> model.greatestAt(place, index), () -> works.greatestAt(place, index));
            case 22 -> both(what, () -> model.isSame(place, second), () -> works.isSame(place, second));
            case 23 -> both(what, () -> model.contains(place, second), () -> works.contains(place, second));
            case 24 -> both(what, () -> model.pieces(place), () -> works.pieces(place));
            case 25 -> both(what, () -> model.areJoined(place, one, other),
                    () -> works.areJoined(place, one, other));
            case 26 -> both(what, () -> model.free(place, high), () -> works.free(place, high));
            case 27 -> both(what, () -> model.holes(place, one), () -> works.holes(place, one));
            default -> both(what, () -> model.signed(place), () -> works.signed(place));
        }
    }

    private void restCall(String what, int kind) {
        int place = place();
        int second = place();
        int face = face();
        int rowFace = below(9) == 0 ? face : rowFace();
        int index = below(9) - 1;
        int one = small(0, 6);
        int other = small(0, 6);
        switch (kind) {
            case 29 -> both(what, () -> model.flip(rowFace), () -> works.flip(rowFace));
            case 30 -> both(what, () -> model.border(), () -> works.border());
            case 31 -> both(what, () -> model.drop(), () -> works.drop());
            case 32 -> both(what, () -> model.rowAt(index), () -> works.rowAt(index));
            case 33 -> both(what, () -> model.isRound(), () -> works.isRound());
            case 34 -> both(what, () -> model.fills(place), () -> works.fills(place));
            case 35 -> both(what, () -> model.mean(place), () -> works.mean(place));
            case 36 -> both(what, () -> model.share(place), () -> works.share(place));
            case 37 -> both(what, () -> model.isSound(place), () -> works.isSound(place));
            case 38 -> both(what, () -> model.isTrue(place, one, other), () -> works.isTrue(place, one, other));
            case 39 -> both(what, () -> model.faceIsTrue(place, face), () -> works.faceIsTrue(place, face));
            default -> both(what, () -> model.pairIsTrue(place, second), () -> works.pairIsTrue(place, second));
        }
    }
}
