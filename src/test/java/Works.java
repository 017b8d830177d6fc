import java.util.ArrayList;
import java.util.List;
import java.util.function.Function;

/**
 * One object of Holeworks, used as the document says: for at most 512 calls. It keeps what was called, so that a
 * test can look at all that is kept on fresh objects that got the same calls, and needs no call of its own for it.
 */
final class Works {
    static final int MOST_CALLS = 512;
    static final int PLACES = 6;
    private static final int FACES = 127;
    private static final int MOST_IN_ROW = 35;

    private final Holeworks works = new Holeworks();
    private final List<Function<Holeworks, Object>> calls = new ArrayList<>();

    private <T> T play(Function<Holeworks, T> call) {
        if (calls.size() >= MOST_CALLS) {
            throw new AssertionError("a test makes more than 512 calls on one object");
        }
        calls.add(call::apply);
        return call.apply(works);
    }

    private Holeworks another(int callsToCome) {
        if (calls.size() + callsToCome > MOST_CALLS) {
            throw new AssertionError("a test makes more than 512 calls on one object, to look at it");
        }
        Holeworks another = new Holeworks();
        for (Function<Holeworks, Object> call : calls) {
            Check.answerOf(() -> call.apply(another));
        }
        return another;
    }

    /** All faces of the shape at a place. */
    List<Integer> facesAt(int place) {
        Holeworks another = another(FACES);
        List<Integer> faces = new ArrayList<>();
        for (int face = 1; face <= FACES; face++) {
            if (another.has(place, face)) {
                faces.add(face);
            }
        }
        return faces;
    }

    /** All faces of the row, in the order in which it tells them. */
    List<Integer> rowFaces() {
        Holeworks another = another(MOST_IN_ROW + 1);
        List<Integer> faces = new ArrayList<>();
        for (int index = 0; index <= MOST_IN_ROW; index++) {
            try {
                faces.add(another.rowAt(index));
            } catch (IndexOutOfBoundsException e) {
                return faces;
            }
        }
        return faces;
    }

    /** All that is kept: the faces of each shape, then those of the row. */
    List<List<Integer>> kept() {
        List<List<Integer>> all = new ArrayList<>();
        for (int place = 0; place < PLACES; place++) {
            all.add(facesAt(place));
        }
        all.add(rowFaces());
        return all;
    }

    int put(int place, int face) {
        return play(works -> works.put(place, face));
    }

    int take(int place, int face) {
        return play(works -> works.take(place, face));
    }

    int clear(int place) {
        return play(works -> works.clear(place));
    }

    int copy(int place, int to) {
        return play(works -> works.copy(place, to));
    }

    int unite(int place, int other, int to) {
        return play(works -> works.unite(place, other, to));
    }

    int meet(int place, int other, int to) {
        return play(works -> works.meet(place, other, to));
    }

    int full(int corners, boolean isRim, int to) {
        return play(works -> works.full(corners, isRim, to));
    }

    int low(int place, int height, int to) {
        return play(works -> works.low(place, height, to));
    }

    int about(int place, int face, boolean isAround, int to) {
        return play(works -> works.about(place, face, isAround, to));
    }

    int cone(int place, int corner, int to) {
        return play(works -> works.cone(place, corner, to));
    }

    int lift(int place, int one, int other, int to) {
        return play(works -> works.lift(place, one, other, to));
    }

    int other(int place, int corners, int to) {
        return play(works -> works.other(place, corners, to));
    }

    int exchange(int place, int one, int other, int to) {
        return play(works -> works.exchange(place, one, other, to));
    }

    int fold(int place, int face) {
        return play(works -> works.fold(place, face));
    }

    boolean has(int place, int face) {
        return play(works -> works.has(place, face));
    }

    int size(int place) {
        return play(works -> works.size(place));
    }

    int faces(int place, int height) {
        return play(works -> works.faces(place, height));
    }

    int corners(int place) {
        return play(works -> works.corners(place));
    }

    int over(int place, int face) {
        return play(works -> works.over(place, face));
    }

    int greatest(int place) {
        return play(works -> works.greatest(place));
    }

    int greatestAt(int place, int index) {
        return play(works -> works.greatestAt(place, index));
    }

    boolean isSame(int place, int other) {
        return play(works -> works.isSame(place, other));
    }

    boolean contains(int place, int other) {
        return play(works -> works.contains(place, other));
    }

    int pieces(int place) {
        return play(works -> works.pieces(place));
    }

    boolean areJoined(int place, int one, int other) {
        return play(works -> works.areJoined(place, one, other));
    }

    int free(int place, int height) {
        return play(works -> works.free(place, height));
    }

    int holes(int place, int height) {
        return play(works -> works.holes(place, height));
    }

    int signed(int place) {
        return play(works -> works.signed(place));
    }

    int flip(int face) {
        return play(works -> works.flip(face));
    }

    int border() {
        return play(works -> works.border());
    }

    int drop() {
        return play(works -> works.drop());
    }

    int rowAt(int index) {
        return play(works -> works.rowAt(index));
    }

    boolean isRound() {
        return play(works -> works.isRound());
    }

    boolean fills(int place) {
        return play(works -> works.fills(place));
    }

    double mean(int place) {
        return play(works -> works.mean(place));
    }

    float share(int place) {
        return play(works -> works.share(place));
    }

    long checksum() {
        return play(works -> works.checksum());
    }

    boolean isSound(int place) {
        return play(works -> works.isSound(place));
    }

    boolean isTrue(int place, int one, int other) {
        return play(works -> works.isTrue(place, one, other));
    }

    boolean faceIsTrue(int place, int face) {
        return play(works -> works.faceIsTrue(place, face));
    }

    boolean pairIsTrue(int place, int other) {
        return play(works -> works.pairIsTrue(place, other));
    }
}
