import java.util.ArrayList;
import java.util.List;
import java.util.function.BiFunction;

/** All calls of the document's face, with the ranges of their arguments, for the program and for the model. */
final class Calls {
    /** What an argument tells, and its range as the document tells it. */
    enum Kind {
        PLACE(0, 5), FACE(1, 127), CORNER(0, 6), HEIGHT(0, 6), FREE_HEIGHT(1, 6), FLAG(0, 1), INDEX(0, 34);

        final int least;
        final int most;

        Kind(int least, int most) {
            this.least = least;
            this.most = most;
        }

        boolean hasRange() {
            return this != FLAG && this != INDEX;
        }

        boolean isInRange(int value) {
            return !hasRange() || value >= least && value <= most;
        }

        /** Both ends of the range, what lies just beyond each of them, and the least and the greatest int. */
        int[] edges() {
            if (this == FLAG) {
                return new int[] {0, 1};
            }
            return new int[] {Integer.MIN_VALUE, least - 1, least, most, most + 1, Integer.MAX_VALUE};
        }

        /** Just beyond the range on both sides, and the least and the greatest int. */
        int[] beyond() {
            return new int[] {least - 1, most + 1, Integer.MIN_VALUE, Integer.MAX_VALUE};
        }
    }

    /** One call: its name, its arguments, how the program is called and how the model. */
    record Call(String name, List<Kind> kinds, BiFunction<Works, int[], Object> program,
                BiFunction<Model, int[], Object> model) {

        String with(int[] values) {
            StringBuilder text = new StringBuilder(name).append('(');
            for (int index = 0; index < values.length; index++) {
                text.append(index == 0 ? "" : ", ").append(values[index]);
            }
            return text.append(')').toString();
        }

        Object ofProgram(Works works, int[] values) {
            return Check.answerOf(() -> program.apply(works, values));
        }

        Object ofModel(Model slow, int[] values) {
            return Check.answerOf(() -> model.apply(slow, values));
        }
    }

    static final List<Call> ALL = all();

    private Calls() {
    }

    static Call named(String name) {
        for (Call call : ALL) {
            if (call.name().equals(name)) {
                return call;
            }
        }
        throw new AssertionError("there is no call " + name);
    }

    private static List<Call> all() {
        List<Call> all = new ArrayList<>();
        addShapes(all);
        addFaces(all);
        addHoles(all);
        addRow(all);
        addNumbersAndTheorem(all);
        return all;
    }

    private static void add(List<Call> all, String name, List<Kind> kinds, BiFunction<Works, int[], Object> program,
                            BiFunction<Model, int[], Object> model) {
        all.add(new Call(name, kinds, program, model));
    }

    private static void addShapes(List<Call> all) {
        List<Kind> one = List.of(Kind.PLACE);
        List<Kind> two = List.of(Kind.PLACE, Kind.PLACE);
        List<Kind> three = List.of(Kind.PLACE, Kind.PLACE, Kind.PLACE);
        List<Kind> face = List.of(Kind.PLACE, Kind.FACE);
        add(all, "put", face, (x, a) -> x.put(a[0], a[1]), (m, a) -> m.put(a[0], a[1]));
        add(all, "take", face, (x, a) -> x.take(a[0], a[1]), (m, a) -> m.take(a[0], a[1]));
        add(all, "clear", one, (x, a) -> x.clear(a[0]), (m, a) -> m.clear(a[0]));
        add(all, "copy", two, (x, a) -> x.copy(a[0], a[1]), (m, a) -> m.copy(a[0], a[1]));
        add(all, "unite", three, (x, a) -> x.unite(a[0], a[1], a[2]), (m, a) -> m.unite(a[0], a[1], a[2]));
        add(all, "meet", three, (x, a) -> x.meet(a[0], a[1], a[2]), (m, a) -> m.meet(a[0], a[1], a[2]));
        add(all, "full", List.of(Kind.FACE, Kind.FLAG, Kind.PLACE),
                (x, a) -> x.full(a[0], a[1] == 1, a[2]), (m, a) -> m.full(a[0], a[1] == 1, a[2]));
        add(all, "low", List.of(Kind.PLACE, Kind.HEIGHT, Kind.PLACE),
                (x, a) -> x.low(a[0], a[1], a[2]), (m, a) -> m.low(a[0], a[1], a[2]));
        add(all, "about", List.of(Kind.PLACE, Kind.FACE, Kind.FLAG, Kind.PLACE),
                (x, a) -> x.about(a[0], a[1], a[2] == 1, a[3]), (m, a) -> m.about(a[0], a[1], a[2] == 1, a[3]));
        add(all, "cone", List.of(Kind.PLACE, Kind.CORNER, Kind.PLACE),
                (x, a) -> x.cone(a[0], a[1], a[2]), (m, a) -> m.cone(a[0], a[1], a[2]));
        add(all, "lift", List.of(Kind.PLACE, Kind.CORNER, Kind.CORNER, Kind.PLACE),
                (x, a) -> x.lift(a[0], a[1], a[2], a[3]), (m, a) -> m.lift(a[0], a[1], a[2], a[3]));
        add(all, "other", List.of(Kind.PLACE, Kind.FACE, Kind.PLACE),
                (x, a) -> x.other(a[0], a[1], a[2]), (m, a) -> m.other(a[0], a[1], a[2]));
        add(all, "exchange", List.of(Kind.PLACE, Kind.CORNER, Kind.CORNER, Kind.PLACE),
                (x, a) -> x.exchange(a[0], a[1], a[2], a[3]), (m, a) -> m.exchange(a[0], a[1], a[2], a[3]));
        add(all, "fold", face, (x, a) -> x.fold(a[0], a[1]), (m, a) -> m.fold(a[0], a[1]));
    }

    private static void addFaces(List<Call> all) {
        List<Kind> one = List.of(Kind.PLACE);
        List<Kind> two = List.of(Kind.PLACE, Kind.PLACE);
        List<Kind> face = List.of(Kind.PLACE, Kind.FACE);
        add(all, "has", face, (x, a) -> x.has(a[0], a[1]), (m, a) -> m.holds(a[0], a[1]));
        add(all, "size", one, (x, a) -> x.size(a[0]), (m, a) -> m.size(a[0]));
        add(all, "faces", List.of(Kind.PLACE, Kind.HEIGHT),
                (x, a) -> x.faces(a[0], a[1]), (m, a) -> m.faces(a[0], a[1]));
        add(all, "corners", one, (x, a) -> x.corners(a[0]), (m, a) -> m.corners(a[0]));
        add(all, "over", face, (x, a) -> x.over(a[0], a[1]), (m, a) -> m.over(a[0], a[1]));
        add(all, "greatest", one, (x, a) -> x.greatest(a[0]), (m, a) -> m.greatest(a[0]));
        add(all, "greatestAt", List.of(Kind.PLACE, Kind.INDEX),
                (x, a) -> x.greatestAt(a[0], a[1]), (m, a) -> m.greatestAt(a[0], a[1]));
        add(all, "isSame", two, (x, a) -> x.isSame(a[0], a[1]), (m, a) -> m.isSame(a[0], a[1]));
        add(all, "contains", two, (x, a) -> x.contains(a[0], a[1]), (m, a) -> m.contains(a[0], a[1]));
    }

    private static void addHoles(List<Call> all) {
        List<Kind> one = List.of(Kind.PLACE);
        add(all, "pieces", one, (x, a) -> x.pieces(a[0]), (m, a) -> m.pieces(a[0]));
        add(all, "areJoined", List.of(Kind.PLACE, Kind.CORNER, Kind.CORNER),
                (x, a) -> x.areJoined(a[0], a[1], a[2]), (m, a) -> m.areJoined(a[0], a[1], a[2]));
        add(all, "free", List.of(Kind.PLACE, Kind.FREE_HEIGHT),
                (x, a) -> x.free(a[0], a[1]), (m, a) -> m.free(a[0], a[1]));
        add(all, "holes", List.of(Kind.PLACE, Kind.HEIGHT),
                (x, a) -> x.holes(a[0], a[1]), (m, a) -> m.holes(a[0], a[1]));
        add(all, "signed", one, (x, a) -> x.signed(a[0]), (m, a) -> m.signed(a[0]));
    }

    private static void addRow(List<Call> all) {
        add(all, "flip", List.of(Kind.FACE), (x, a) -> x.flip(a[0]), (m, a) -> m.flip(a[0]));
        add(all, "border", List.of(), (x, a) -> x.border(), (m, a) -> m.border());
        add(all, "drop", List.of(), (x, a) -> x.drop(), (m, a) -> m.drop());
        add(all, "rowAt", List.of(Kind.INDEX), (x, a) -> x.rowAt(a[0]), (m, a) -> m.rowAt(a[0]));
        add(all, "isRound", List.of(), (x, a) -> x.isRound(), (m, a) -> m.isRound());
        add(all, "fills", List.of(Kind.PLACE), (x, a) -> x.fills(a[0]), (m, a) -> m.fills(a[0]));
    }

    private static void addNumbersAndTheorem(List<Call> all) {
        List<Kind> one = List.of(Kind.PLACE);
        add(all, "mean", one, (x, a) -> x.mean(a[0]), (m, a) -> m.mean(a[0]));
        add(all, "share", one, (x, a) -> x.share(a[0]), (m, a) -> m.share(a[0]));
        add(all, "checksum", List.of(), (x, a) -> x.checksum(), (m, a) -> m.checksum());
        add(all, "isSound", one, (x, a) -> x.isSound(a[0]), (m, a) -> m.isSound(a[0]));
        add(all, "isTrue", List.of(Kind.PLACE, Kind.CORNER, Kind.CORNER),
                (x, a) -> x.isTrue(a[0], a[1], a[2]), (m, a) -> m.isTrue(a[0], a[1], a[2]));
        add(all, "faceIsTrue", List.of(Kind.PLACE, Kind.FACE),
                (x, a) -> x.faceIsTrue(a[0], a[1]), (m, a) -> m.faceIsTrue(a[0], a[1]));
        add(all, "pairIsTrue", List.of(Kind.PLACE, Kind.PLACE),
                (x, a) -> x.pairIsTrue(a[0], a[1]), (m, a) -> m.pairIsTrue(a[0], a[1]));
    }
}
