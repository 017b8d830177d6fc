import java.util.List;

/** All promises: runs of 512 mixed calls on one object, each answered as the slow model of the document answers it. */
public final class ModelRunsTest {
    private static final int RUNS = 400;
    private static final int CALLS = Works.MOST_CALLS;
    private static final int[] ODD_FACES = {0, 128, -1, 255};

    private final Check check = new Check("ModelRunsTest");
    private Works works = new Works();
    private Model model = new Model();
    private long state = 20261118L;

    public static void main(String[] args) {
        ModelRunsTest test = new ModelRunsTest();
        for (int run = 0; run < RUNS; run++) {
            test.oneRun(run);
        }
        test.check.end();
    }

    /** In every other run each call is followed by a checksum, in the rest only the last one. */
    private void oneRun(int run) {
        works = new Works();
        model = new Model();
        int turn = run % 2 == 0 ? 2 : CALLS;
        for (int call = 0; call < CALLS; call++) {
            boolean isChecksum = call % turn == turn - 1;
            oneCall("run " + run + " call " + call, isChecksum ? Calls.named("checksum") : anyCall());
        }
    }

    private void oneCall(String what, Calls.Call call) {
        int[] values = new int[call.kinds().size()];
        for (int index = 0; index < values.length; index++) {
            values[index] = anyOf(call.kinds().get(index));
        }
        if (call.name().equals("flip") && below(9) > 0) {
            values[0] = rowFace();
        }
        if (call.name().equals("other") && below(2) == 0) {
            values[1] = 127;
        }
        check.same(what + " " + call.with(values), call.ofModel(model, values), call.ofProgram(works, values));
    }

    /** Often one that makes shapes or the row greater, so that there is something to be told of. */
    private Calls.Call anyCall() {
        List<Calls.Call> all = Calls.ALL;
        if (below(4) == 0) {
            return Calls.named(below(2) == 0 ? "put" : "flip");
        }
        return all.get(below(all.size()));
    }

    /** A number from 0 on, below a bound, always the same ones in the same order. */
    private int below(int bound) {
        state = state * 6364136223846793005L + 1442695040888963407L;
        return (int) ((state >>> 33) % bound);
    }

    private int anyOf(Calls.Kind kind) {
        if (kind == Calls.Kind.FACE) {
            return face();
        }
        if (kind == Calls.Kind.INDEX) {
            return below(9) - 1;
        }
        if (kind.hasRange() && below(30) == 0) {
            return below(2) == 0 ? kind.least - 1 : kind.most + 1;
        }
        return kind.least + below(kind.most - kind.least + 1);
    }

    private int face() {
        int kind = below(30);
        if (kind == 0) {
            return ODD_FACES[below(ODD_FACES.length)];
        }
        int face = 1 + below(127);
        return kind < 15 ? face : Math.max(1, face & 1 + below(127));
    }

    private int rowFace() {
        List<Integer> row = model.kept().get(Works.PLACES);
        int height = row.isEmpty() ? below(4) : Model.height(row.get(0));
        for (int tries = 0; tries < 50; tries++) {
            int face = 1 + below(127);
            if (Model.height(face) == height) {
                return face;
            }
        }
        return face();
    }
}
