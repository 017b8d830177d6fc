import java.util.ArrayList;
import java.util.List;
import java.util.NoSuchElementException;
import java.util.TreeSet;

/** The document again, word for word and slow: sets of sorted numbers, and sums of rows written out. */
final class Model {
    private final List<TreeSet<Integer>> shapes = new ArrayList<>();
    private TreeSet<Integer> row = new TreeSet<>();

    Model() {
        for (int place = 0; place < 6; place++) {
            shapes.add(new TreeSet<>());
        }
    }

    /** All that is kept: the faces of each shape, then those of the row. */
    List<List<Integer>> kept() {
        List<List<Integer>> all = new ArrayList<>();
        for (TreeSet<Integer> shape : shapes) {
            all.add(new ArrayList<>(shape));
        }
        all.add(new ArrayList<>(row));
        return all;
    }

    private static void checkPlace(int... places) {
        for (int place : places) {
            if (place < 0 || place > 5) {
                throw new IndexOutOfBoundsException();
            }
        }
    }

    private static void checkBetween(int least, int most, int... numbers) {
        for (int number : numbers) {
            if (number < least || number > most) {
                throw new IllegalArgumentException();
            }
        }
    }

    private static void checkHeld(TreeSet<Integer> shape, int face) {
        if (!shape.contains(face)) {
            throw new NoSuchElementException();
        }
    }

    static int height(int face) {
        int corners = 0;
        for (int rest = face; rest > 0; rest /= 2) {
            corners += rest % 2;
        }
        return corners - 1;
    }

    static boolean isPart(int part, int face) {
        for (int corner = 0; corner < 7; corner++) {
            if (has(part, corner) && !has(face, corner)) {
                return false;
            }
        }
        return true;
    }

    private static boolean has(int face, int corner) {
        return face / power(corner) % 2 == 1;
    }

    private static int power(int corner) {
        int power = 1;
        for (int each = 0; each < corner; each++) {
            power *= 2;
        }
        return power;
    }

    private static boolean share(int one, int other) {
        for (int corner = 0; corner < 7; corner++) {
            if (has(one, corner) && has(other, corner)) {
                return true;
            }
        }
        return false;
    }

    private static int together(int one, int other) {
        int all = 0;
        for (int corner = 0; corner < 7; corner++) {
            all += has(one, corner) || has(other, corner) ? power(corner) : 0;
        }
        return all;
    }

    private int give(TreeSet<Integer> made, int to) {
        shapes.set(to, made);
        return made.size();
    }

    int put(int place, int face) {
        checkPlace(place);
        checkBetween(1, 127, face);
        int fresh = 0;
        for (int part = 1; part <= 127; part++) {
            fresh += isPart(part, face) && shapes.get(place).add(part) ? 1 : 0;
        }
        return fresh;
    }

    int take(int place, int face) {
        checkPlace(place);
        checkBetween(1, 127, face);
        TreeSet<Integer> shape = shapes.get(place);
        checkHeld(shape, face);
        int gone = 0;
        for (int greater = 1; greater <= 127; greater++) {
            gone += isPart(face, greater) && shape.remove(greater) ? 1 : 0;
        }
        return gone;
    }

    int clear(int place) {
        checkPlace(place);
        int gone = shapes.get(place).size();
        shapes.set(place, new TreeSet<>());
        return gone;
    }

    int copy(int place, int to) {
        checkPlace(place, to);
        return give(new TreeSet<>(shapes.get(place)), to);
    }

    int unite(int place, int other, int to) {
        checkPlace(place, other, to);
        TreeSet<Integer> made = new TreeSet<>(shapes.get(place));
        made.addAll(shapes.get(other));
        return give(made, to);
    }

    int meet(int place, int other, int to) {
        checkPlace(place, other, to);
        TreeSet<Integer> made = new TreeSet<>(shapes.get(place));
        made.retainAll(shapes.get(other));
        return give(made, to);
    }

    int full(int corners, boolean isRim, int to) {
        checkPlace(to);
        checkBetween(1, 127, corners);
        TreeSet<Integer> made = new TreeSet<>();
        for (int face = 1; face <= 127; face++) {
            if (isPart(face, corners) && !(isRim && face == corners)) {
                made.add(face);
            }
        }
        return give(made, to);
    }

    int low(int place, int height, int to) {
        checkPlace(place, to);
        checkBetween(0, 6, height);
        TreeSet<Integer> made = new TreeSet<>();
        for (int face : shapes.get(place)) {
            if (height(face) <= height) {
                made.add(face);
            }
        }
        return give(made, to);
    }

    int about(int place, int face, boolean isAround, int to) {
        checkPlace(place, to);
        checkBetween(1, 127, face);
        TreeSet<Integer> shape = shapes.get(place);
        checkHeld(shape, face);
        TreeSet<Integer> made = new TreeSet<>();
        for (int each : shape) {
            if (shape.contains(together(each, face)) && !(isAround && share(each, face))) {
                made.add(each);
            }
        }
        return give(made, to);
    }

    int cone(int place, int corner, int to) {
        checkPlace(place, to);
        checkBetween(0, 6, corner);
        return give(joined(shapes.get(place), corner), to);
    }

    int lift(int place, int one, int other, int to) {
        checkPlace(place, to);
        checkBetween(0, 6, one, other);
        if (one == other) {
            throw new IllegalArgumentException();
        }
        TreeSet<Integer> made = joined(shapes.get(place), one);
        made.addAll(joined(shapes.get(place), other));
        return give(made, to);
    }

    private static TreeSet<Integer> joined(TreeSet<Integer> shape, int corner) {
        TreeSet<Integer> made = new TreeSet<>(shape);
        made.add(power(corner));
        for (int face : shape) {
            if (has(face, corner)) {
                throw new IllegalStateException();
            }
            made.add(face + power(corner));
        }
        return made;
    }

    int other(int place, int corners, int to) {
        checkPlace(place, to);
        checkBetween(1, 127, corners);
        TreeSet<Integer> shape = shapes.get(place);
        for (int face : shape) {
            if (!isPart(face, corners)) {
                throw new IllegalStateException();
            }
        }
        TreeSet<Integer> made = new TreeSet<>();
        for (int face = 1; face <= 127; face++) {
            if (isPart(face, corners) && face != corners && !shape.contains(corners - face)) {
                made.add(face);
            }
        }
        return give(made, to);
    }

    int exchange(int place, int one, int other, int to) {
        checkPlace(place, to);
        checkBetween(0, 6, one, other);
        TreeSet<Integer> made = new TreeSet<>();
        for (int face : shapes.get(place)) {
            int turned = 0;
            for (int corner = 0; corner < 7; corner++) {
                int name = corner == one ? other : corner == other ? one : corner;
                turned += has(face, corner) ? power(name) : 0;
            }
            made.add(turned);
        }
        TreeSet<Integer> fresh = new TreeSet<>(made);
        fresh.removeAll(shapes.get(place));
        give(made, to);
        return fresh.size();
    }

    int fold(int place, int face) {
        checkPlace(place);
        checkBetween(1, 127, face);
        TreeSet<Integer> shape = shapes.get(place);
        checkHeld(shape, face);
        TreeSet<Integer> greater = greaterOnes(shape, face);
        if (greater.size() != 1) {
            throw new IllegalStateException();
        }
        shape.remove(face);
        shape.remove(greater.first());
        return greater.first();
    }

    private static TreeSet<Integer> greaterOnes(TreeSet<Integer> shape, int face) {
        TreeSet<Integer> found = new TreeSet<>();
        for (int each : shape) {
            if (each != face && isPart(face, each)) {
                found.add(each);
            }
        }
        return found;
    }

    boolean holds(int place, int face) {
        checkPlace(place);
        checkBetween(1, 127, face);
        return shapes.get(place).contains(face);
    }

    int size(int place) {
        checkPlace(place);
        return shapes.get(place).size();
    }

    int faces(int place, int height) {
        checkPlace(place);
        checkBetween(0, 6, height);
        return ofHeight(shapes.get(place), height).size();
    }

    private static List<Integer> ofHeight(TreeSet<Integer> shape, int height) {
        List<Integer> found = new ArrayList<>();
        for (int face : shape) {
            if (height(face) == height) {
                found.add(face);
            }
        }
        return found;
    }

    int corners(int place) {
        checkPlace(place);
        int all = 0;
        for (int face : shapes.get(place)) {
            all = together(all, face);
        }
        return all;
    }

    int over(int place, int face) {
        checkPlace(place);
        checkBetween(1, 127, face);
        checkHeld(shapes.get(place), face);
        return greaterOnes(shapes.get(place), face).size();
    }

    private List<Integer> greatestOnes(int place) {
        checkPlace(place);
        List<Integer> found = new ArrayList<>();
        for (int face : shapes.get(place)) {
            if (greaterOnes(shapes.get(place), face).isEmpty()) {
                found.add(face);
            }
        }
        return found;
    }

    int greatest(int place) {
        return greatestOnes(place).size();
    }

    int greatestAt(int place, int index) {
        return greatestOnes(place).get(index);
    }

    boolean isSame(int place, int other) {
        checkPlace(place, other);
        return shapes.get(place).equals(shapes.get(other));
    }

    boolean contains(int place, int other) {
        checkPlace(place, other);
        return shapes.get(place).containsAll(shapes.get(other));
    }

    /** The name of each corner's piece: the least corner that it comes to; -1 where there is no corner. */
    private static int[] pieceNames(TreeSet<Integer> shape) {
        int[] names = new int[7];
        for (int corner = 0; corner < 7; corner++) {
            names[corner] = shape.contains(power(corner)) ? corner : -1;
        }
        for (int round = 0; round < 7; round++) {
            for (int edge : ofHeight(shape, 1)) {
                int least = 7;
                for (int corner = 0; corner < 7; corner++) {
                    least = has(edge, corner) ? Math.min(least, names[corner]) : least;
                }
                for (int corner = 0; corner < 7; corner++) {
                    names[corner] = has(edge, corner) ? least : names[corner];
                }
            }
        }
        return names;
    }

    int pieces(int place) {
        checkPlace(place);
        TreeSet<Integer> names = new TreeSet<>();
        for (int name : pieceNames(shapes.get(place))) {
            names.add(name);
        }
        names.remove(-1);
        return names.size();
    }

    boolean areJoined(int place, int one, int other) {
        checkPlace(place);
        checkBetween(0, 6, one, other);
        checkHeld(shapes.get(place), power(one));
        checkHeld(shapes.get(place), power(other));
        int[] names = pieceNames(shapes.get(place));
        return names[one] == names[other];
    }

    private static TreeSet<Integer> sum(TreeSet<Integer> one, TreeSet<Integer> other) {
        TreeSet<Integer> sum = new TreeSet<>(one);
        for (int face : other) {
            if (!sum.add(face)) {
                sum.remove(face);
            }
        }
        return sum;
    }

    private static TreeSet<Integer> borderOf(TreeSet<Integer> faces) {
        TreeSet<Integer> border = new TreeSet<>();
        for (int face : faces) {
            TreeSet<Integer> parts = new TreeSet<>();
            for (int part = 1; part < face; part++) {
                if (isPart(part, face) && height(part) == height(face) - 1) {
                    parts.add(part);
                }
            }
            border = sum(border, parts);
        }
        return border;
    }

    private static int freeAmong(List<TreeSet<Integer>> rows) {
        List<TreeSet<Integer>> left = new ArrayList<>(rows);
        int free = 0;
        while (!left.isEmpty()) {
            TreeSet<Integer> taken = left.remove(left.size() - 1);
            if (!taken.isEmpty()) {
                free++;
                int last = taken.last();
                for (int index = 0; index < left.size(); index++) {
                    if (left.get(index).contains(last)) {
                        left.set(index, sum(left.get(index), taken));
                    }
                }
            }
        }
        return free;
    }

    private static List<TreeSet<Integer>> bordersOf(TreeSet<Integer> shape, int height) {
        List<TreeSet<Integer>> borders = new ArrayList<>();
        for (int face : ofHeight(shape, height)) {
            borders.add(borderOf(new TreeSet<>(List.of(face))));
        }
        return borders;
    }

    int free(int place, int height) {
        checkPlace(place);
        checkBetween(1, 6, height);
        return freeAmong(bordersOf(shapes.get(place), height));
    }

    int holes(int place, int height) {
        checkPlace(place);
        checkBetween(0, 6, height);
        TreeSet<Integer> shape = shapes.get(place);
        if (shape.isEmpty()) {
            return 0;
        }
        int below = height == 0 ? 1 : freeAmong(bordersOf(shape, height));
        return ofHeight(shape, height).size() - below - freeAmong(bordersOf(shape, height + 1));
    }

    int signed(int place) {
        checkPlace(place);
        int sum = 0;
        for (int face : shapes.get(place)) {
            sum += height(face) % 2 == 1 ? -1 : 1;
        }
        return sum;
    }

    int flip(int face) {
        checkBetween(1, 127, face);
        for (int each : row) {
            if (height(each) != height(face)) {
                throw new IllegalStateException();
            }
        }
        row = sum(row, new TreeSet<>(List.of(face)));
        return row.size();
    }

    int border() {
        row = borderOf(row);
        return row.size();
    }

    int drop() {
        int gone = row.size();
        row = new TreeSet<>();
        return gone;
    }

    int rowAt(int index) {
        return new ArrayList<>(row).get(index);
    }

    boolean isRound() {
        return borderOf(row).isEmpty();
    }

    boolean fills(int place) {
        checkPlace(place);
        if (!shapes.get(place).containsAll(row)) {
            throw new IllegalStateException();
        }
        if (row.isEmpty()) {
            return true;
        }
        List<TreeSet<Integer>> borders = bordersOf(shapes.get(place), height(row.first()) + 1);
        int before = freeAmong(borders);
        borders.add(row);
        return freeAmong(borders) == before;
    }

    double mean(int place) {
        checkPlace(place);
        if (shapes.get(place).isEmpty()) {
            throw new NoSuchElementException();
        }
        double sum = 0;
        for (int face : shapes.get(place)) {
            sum += height(face);
        }
        return sum / shapes.get(place).size();
    }

    float share(int place) {
        checkPlace(place);
        return shapes.get(place).isEmpty() ? 0.0f : greatest(place) / (float) shapes.get(place).size();
    }

    long checksum() {
        long sum = 17;
        List<TreeSet<Integer>> all = new ArrayList<>(shapes);
        all.add(row);
        for (TreeSet<Integer> faces : all) {
            sum = 31 * sum + faces.size();
            for (int face : faces) {
                sum = 31 * sum + face;
            }
        }
        return sum;
    }

    boolean isSound(int place) {
        checkPlace(place);
        return true;
    }

    boolean isTrue(int place, int one, int other) {
        checkPlace(place);
        checkBetween(0, 6, one, other);
        return true;
    }

    boolean faceIsTrue(int place, int face) {
        checkPlace(place);
        checkBetween(1, 127, face);
        checkHeld(shapes.get(place), face);
        return true;
    }

    boolean pairIsTrue(int place, int other) {
        checkPlace(place, other);
        return true;
    }
}
