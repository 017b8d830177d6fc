import java.util.NoSuchElementException;

/**
 * Shapes over at most seven corners, their faces, pieces and holes, and one row of faces.
 *
 * <p>All room that a call needs is made once, with the object: no call makes anything.
 */
public final class Holeworks {
    private static final int PLACES = 6;
    private static final int CORNERS = 7;
    private static final int HEIGHTS = 7;
    private static final int LAST_FACE = 127;
    private static final int NO_FACE = 0;
    /** The document takes 1 from the corners, where it takes R from the faces of any other height. */
    private static final int LOST_CORNERS = 1;

    private final FaceSet[] shapes;
    private final FaceSet row;
    /** What a call makes, before a place gets it: the place it is made of may be the one that gets it. */
    private final FaceSet made;
    private final Borders borders;
    private final Theorem theorem;

    public Holeworks() {
        shapes = new FaceSet[PLACES];
        for (int place = 0; place < PLACES; place++) {
            shapes[place] = new FaceSet();
        }
        row = new FaceSet();
        made = new FaceSet();
        theorem = new Theorem();
        borders = theorem.borders();
    }

    // Shapes.

    public int put(int place, int face) throws IndexOutOfBoundsException, IllegalArgumentException {
        FaceSet shape = shapeAt(place);
        checkFace(face);
        int before = shape.count();
        shape.addParts(face);
        return shape.count() - before;
    }

    public int take(int place, int face)
            throws IndexOutOfBoundsException, IllegalArgumentException, NoSuchElementException {
        FaceSet shape = shapeAt(place);
        checkFace(face);
        checkHeld(shape, face);
        int before = shape.count();
        shape.removeWithAllOver(face);
        return before - shape.count();
    }

    public int clear(int place) throws IndexOutOfBoundsException {
        return emptied(shapeAt(place));
    }

    public int copy(int place, int to) throws IndexOutOfBoundsException {
        FaceSet shape = shapeAt(place);
        FaceSet target = shapeAt(to);
        target.become(shape);
        return target.count();
    }

    public int unite(int place, int other, int to) throws IndexOutOfBoundsException {
        FaceSet shape = shapeAt(place);
        FaceSet second = shapeAt(other);
        FaceSet target = shapeAt(to);
        made.becomeUnion(shape, second);
        return giveMade(target);
    }

    public int meet(int place, int other, int to) throws IndexOutOfBoundsException {
        FaceSet shape = shapeAt(place);
        FaceSet second = shapeAt(other);
        FaceSet target = shapeAt(to);
        made.becomeMeeting(shape, second);
        return giveMade(target);
    }

    public int full(int corners, boolean isRim, int to)
            throws IndexOutOfBoundsException, IllegalArgumentException {
        FaceSet target = shapeAt(to);
        checkFace(corners);
        target.empty();
        target.addParts(corners);
        if (isRim) {
            target.remove(corners);
        }
        return target.count();
    }

    public int low(int place, int height, int to) throws IndexOutOfBoundsException, IllegalArgumentException {
        FaceSet shape = shapeAt(place);
        FaceSet target = shapeAt(to);
        checkHeight(height, 0);
        Making.makeLow(shape, height, made);
        return giveMade(target);
    }

    public int about(int place, int face, boolean isAround, int to)
            throws IndexOutOfBoundsException, IllegalArgumentException, NoSuchElementException {
        FaceSet shape = shapeAt(place);
        FaceSet target = shapeAt(to);
        checkFace(face);
        checkHeld(shape, face);
        Making.makeAbout(shape, face, isAround, made);
        return giveMade(target);
    }

    public int cone(int place, int corner, int to)
            throws IndexOutOfBoundsException, IllegalArgumentException, IllegalStateException {
        FaceSet shape = shapeAt(place);
        FaceSet target = shapeAt(to);
        checkCorner(corner);
        checkNew(shape, corner);
        Making.makeCone(shape, 1 << corner, made);
        return giveMade(target);
    }

    public int lift(int place, int one, int other, int to)
            throws IndexOutOfBoundsException, IllegalArgumentException, IllegalStateException {
        FaceSet shape = shapeAt(place);
        FaceSet target = shapeAt(to);
        checkCorner(one);
        checkCorner(other);
        if (one == other) {
            throw new IllegalArgumentException("the two corners are the same");
        }
        checkNew(shape, one);
        checkNew(shape, other);
        Making.makeLift(shape, 1 << one, 1 << other, made);
        return giveMade(target);
    }

    public int other(int place, int corners, int to)
            throws IndexOutOfBoundsException, IllegalArgumentException, IllegalStateException {
        FaceSet shape = shapeAt(place);
        FaceSet target = shapeAt(to);
        checkFace(corners);
        if ((shape.cornerSet() & ~corners) != 0) {
            throw new IllegalStateException("a corner of the shape is not among them");
        }
        Making.makeOther(shape, corners, made);
        return giveMade(target);
    }

    public int exchange(int place, int one, int other, int to)
            throws IndexOutOfBoundsException, IllegalArgumentException {
        FaceSet shape = shapeAt(place);
        FaceSet target = shapeAt(to);
        checkCorner(one);
        checkCorner(other);
        Making.makeExchanged(shape, one, other, made);
        int fresh = made.countBeyond(shape);
        target.become(made);
        return fresh;
    }

    public int fold(int place, int face)
            throws IndexOutOfBoundsException, IllegalArgumentException, NoSuchElementException,
            IllegalStateException {
        FaceSet shape = shapeAt(place);
        checkFace(face);
        checkHeld(shape, face);
        if (shape.countOver(face) != 1) {
            throw new IllegalStateException("the face does not lie in just one other");
        }
        int greater = shape.firstOver(face);
        shape.remove(face);
        shape.remove(greater);
        return greater;
    }

    // Faces.

    public boolean has(int place, int face) throws IndexOutOfBoundsException, IllegalArgumentException {
        FaceSet shape = shapeAt(place);
        checkFace(face);
        return shape.holds(face);
    }

    public int size(int place) throws IndexOutOfBoundsException {
        return shapeAt(place).count();
    }

    public int faces(int place, int height) throws IndexOutOfBoundsException, IllegalArgumentException {
        FaceSet shape = shapeAt(place);
        checkHeight(height, 0);
        return shape.countAt(height);
    }

    public int corners(int place) throws IndexOutOfBoundsException {
        return shapeAt(place).cornerSet();
    }

    public int over(int place, int face)
            throws IndexOutOfBoundsException, IllegalArgumentException, NoSuchElementException {
        FaceSet shape = shapeAt(place);
        checkFace(face);
        checkHeld(shape, face);
        return shape.countOver(face);
    }

    public int greatest(int place) throws IndexOutOfBoundsException {
        Making.makeGreatest(shapeAt(place), made);
        return made.count();
    }

    public int greatestAt(int place, int index) throws IndexOutOfBoundsException {
        Making.makeGreatest(shapeAt(place), made);
        return checkedFaceAt(made, index);
    }

    public boolean isSame(int place, int other) throws IndexOutOfBoundsException {
        FaceSet shape = shapeAt(place);
        FaceSet second = shapeAt(other);
        return shape.isLike(second);
    }

    public boolean contains(int place, int other) throws IndexOutOfBoundsException {
        FaceSet shape = shapeAt(place);
        FaceSet second = shapeAt(other);
        return shape.holdsAll(second);
    }

    // Pieces and holes.

    public int pieces(int place) throws IndexOutOfBoundsException {
        return Walk.countPieces(shapeAt(place));
    }

    public boolean areJoined(int place, int one, int other)
            throws IndexOutOfBoundsException, IllegalArgumentException, NoSuchElementException {
        FaceSet shape = shapeAt(place);
        checkCorner(one);
        checkCorner(other);
        checkHeld(shape, 1 << one);
        checkHeld(shape, 1 << other);
        return (Walk.pieceFrom(shape, 1 << one) & 1 << other) != 0;
    }

    public int free(int place, int height) throws IndexOutOfBoundsException, IllegalArgumentException {
        FaceSet shape = shapeAt(place);
        checkHeight(height, 1);
        return borders.countFree(shape, height);
    }

    public int holes(int place, int height) throws IndexOutOfBoundsException, IllegalArgumentException {
        FaceSet shape = shapeAt(place);
        checkHeight(height, 0);
        return borders.countHoles(shape, height);
    }

    public int signed(int place) throws IndexOutOfBoundsException {
        return shapeAt(place).signedCount();
    }

    // The row.

    public int flip(int face) throws IllegalArgumentException, IllegalStateException {
        checkFace(face);
        if (!row.isEmpty() && heightOf(row.faceAt(0)) != heightOf(face)) {
            throw new IllegalStateException("the row has faces of another height");
        }
        row.toggle(face);
        return row.count();
    }

    public int border() {
        Borders.makeBorder(row, made);
        return giveMade(row);
    }

    public int drop() {
        return emptied(row);
    }

    public int rowAt(int index) throws IndexOutOfBoundsException {
        return checkedFaceAt(row, index);
    }

    public boolean isRound() {
        Borders.makeBorder(row, made);
        return made.isEmpty();
    }

    public boolean fills(int place) throws IndexOutOfBoundsException, IllegalStateException {
        FaceSet shape = shapeAt(place);
        if (!shape.holdsAll(row)) {
            throw new IllegalStateException("the shape does not have all faces of the row");
        }
        return borders.isFilling(row, shape);
    }

    // All of them.

    public double mean(int place) throws IndexOutOfBoundsException, NoSuchElementException {
        FaceSet shape = shapeAt(place);
        int many = shape.count();
        if (many == 0) {
            throw new NoSuchElementException("the shape has no faces");
        }
        return (double) shape.heightSum() / (double) many;
    }

    public float share(int place) throws IndexOutOfBoundsException {
        FaceSet shape = shapeAt(place);
        int many = shape.count();
        if (many == 0) {
            return 0.0f;
        }
        Making.makeGreatest(shape, made);
        return (float) made.count() / (float) many;
    }

    public long checksum() {
        long sum = 17L;
        for (int place = 0; place < PLACES; place++) {
            sum = checksumOn(sum, shapes[place]);
        }
        return checksumOn(sum, row);
    }

    // The theorem.

    public boolean isSound(int place) throws IndexOutOfBoundsException {
        FaceSet shape = shapeAt(place);
        return theorem.tellsPieces(shape) && theorem.tellsSignedCount(shape) && theorem.tellsRow(row, shape);
    }

    public boolean isTrue(int place, int one, int other) throws IndexOutOfBoundsException, IllegalArgumentException {
        FaceSet shape = shapeAt(place);
        checkCorner(one);
        checkCorner(other);
        return theorem.tellsCone(shape) && theorem.tellsLift(shape)
                && theorem.tellsOther(shape, LAST_FACE) && theorem.tellsOther(shape, shape.cornerSet())
                && theorem.tellsExchange(shape, one, other);
    }

    public boolean faceIsTrue(int place, int face)
            throws IndexOutOfBoundsException, IllegalArgumentException, NoSuchElementException {
        FaceSet shape = shapeAt(place);
        checkFace(face);
        checkHeld(shape, face);
        return theorem.tellsAbout(shape, face) && theorem.tellsFold(shape, face)
                && theorem.tellsTaking(shape, face);
    }

    public boolean pairIsTrue(int place, int other) throws IndexOutOfBoundsException {
        FaceSet shape = shapeAt(place);
        FaceSet second = shapeAt(other);
        return theorem.tellsSums(shape, second) && theorem.tellsTouching(shape, second);
    }

    private FaceSet shapeAt(int place) {
        if (place < 0 || place >= PLACES) {
            throw new IndexOutOfBoundsException("there is no such place");
        }
        return shapes[place];
    }

    private int giveMade(FaceSet target) {
        target.become(made);
        return target.count();
    }

    private static int emptied(FaceSet set) {
        int gone = set.count();
        set.empty();
        return gone;
    }

    private static void checkFace(int face) {
        if (face < 1 || face > LAST_FACE) {
            throw new IllegalArgumentException("there is no such face");
        }
    }

    private static void checkCorner(int corner) {
        if (corner < 0 || corner >= CORNERS) {
            throw new IllegalArgumentException("there is no such corner");
        }
    }

    private static void checkHeight(int height, int least) {
        if (height < least || height >= HEIGHTS) {
            throw new IllegalArgumentException("there is no such height");
        }
    }

    private static void checkHeld(FaceSet shape, int face) {
        if (!shape.holds(face)) {
            throw new NoSuchElementException("the shape does not have it");
        }
    }

    private static void checkNew(FaceSet shape, int corner) {
        if (shape.holds(1 << corner)) {
            throw new IllegalStateException("it is a corner of the shape");
        }
    }

    private static int checkedFaceAt(FaceSet set, int index) {
        int face = set.faceAt(index);
        if (face == NO_FACE) {
            throw new IndexOutOfBoundsException("there is no such face at this index");
        }
        return face;
    }

    private static long checksumOn(long before, FaceSet set) {
        long sum = before * 31L + set.count();
        for (int face = 1; face <= LAST_FACE; face++) {
            if (set.holds(face)) {
                sum = sum * 31L + face;
            }
        }
        return sum;
    }

    private static int heightOf(int face) {
        return Integer.bitCount(face) - 1;
    }

    /** The one corner of lowest number among some corners, as a face; no face of none. */
    private static int leastCorner(int corners) {
        return corners & -corners;
    }

    /** A set of faces, told by their numbers: a shape is one, and so is a row. */
    private static final class FaceSet {
        private static final int WORD = 64;

        /** A bit for each face; Java shifts a long by the distance modulo 64, so it fits the upper word too. */
        private long lower;
        private long upper;

        boolean holds(int face) {
            long word = face < WORD ? lower : upper;
            return (word >>> face & 1L) != 0L;
        }

        void add(int face) {
            if (face < WORD) {
                lower |= 1L << face;
            } else {
                upper |= 1L << face;
            }
        }

        void remove(int face) {
            if (face < WORD) {
                lower &= ~(1L << face);
            } else {
                upper &= ~(1L << face);
            }
        }

        void toggle(int face) {
            if (holds(face)) {
                remove(face);
            } else {
                add(face);
            }
        }

        void addParts(int face) {
            for (int part = 1; part <= face; part++) {
                if ((part & face) == part) {
                    add(part);
                }
            }
        }

        void removeWithAllOver(int face) {
            for (int greater = face; greater <= LAST_FACE; greater++) {
                if ((greater & face) == face) {
                    remove(greater);
                }
            }
        }

        void empty() {
            lower = 0L;
            upper = 0L;
        }

        void become(FaceSet source) {
            lower = source.lower;
            upper = source.upper;
        }

        void becomeUnion(FaceSet one, FaceSet second) {
            lower = one.lower | second.lower;
            upper = one.upper | second.upper;
        }

        void becomeMeeting(FaceSet one, FaceSet second) {
            lower = one.lower & second.lower;
            upper = one.upper & second.upper;
        }

        boolean isEmpty() {
            return (lower | upper) == 0L;
        }

        boolean isLike(FaceSet second) {
            return lower == second.lower && upper == second.upper;
        }

        boolean holdsAll(FaceSet second) {
            return second.countBeyond(this) == 0;
        }

        int count() {
            return Long.bitCount(lower) + Long.bitCount(upper);
        }

        /** How many faces it has that the second does not have. */
        int countBeyond(FaceSet second) {
            return Long.bitCount(lower & ~second.lower) + Long.bitCount(upper & ~second.upper);
        }

        int countAt(int height) {
            int many = 0;
            for (int face = 1; face <= LAST_FACE; face++) {
                if (heightOf(face) == height && holds(face)) {
                    many++;
                }
            }
            return many;
        }

        int signedCount() {
            int sum = 0;
            for (int face = 1; face <= LAST_FACE; face++) {
                if (holds(face)) {
                    sum += heightOf(face) % 2 == 0 ? 1 : -1;
                }
            }
            return sum;
        }

        int heightSum() {
            int sum = 0;
            for (int face = 1; face <= LAST_FACE; face++) {
                if (holds(face)) {
                    sum += heightOf(face);
                }
            }
            return sum;
        }

        int cornerSet() {
            int all = 0;
            for (int face = 1; face <= LAST_FACE; face++) {
                if (holds(face)) {
                    all |= face;
                }
            }
            return all;
        }

        /** Its face at an index, in the order of their numbers; no face where it has none. */
        int faceAt(int index) {
            int before = 0;
            for (int face = 1; face <= LAST_FACE; face++) {
                if (holds(face)) {
                    if (before == index) {
                        return face;
                    }
                    before++;
                }
            }
            return NO_FACE;
        }

        int countOver(int face) {
            int many = 0;
            for (int greater = face + 1; greater <= LAST_FACE; greater++) {
                if ((greater & face) == face && holds(greater)) {
                    many++;
                }
            }
            return many;
        }

        int firstOver(int face) {
            for (int greater = face + 1; greater <= LAST_FACE; greater++) {
                if ((greater & face) == face && holds(greater)) {
                    return greater;
                }
            }
            return NO_FACE;
        }
    }

    /** Makes shapes out of a shape; what is made never stands in the set that it is made of. */
    private static final class Making {
        static void makeLow(FaceSet shape, int height, FaceSet made) {
            made.empty();
            for (int face = 1; face <= LAST_FACE; face++) {
                if (shape.holds(face) && heightOf(face) <= height) {
                    made.add(face);
                }
            }
        }

        static void makeAbout(FaceSet shape, int center, boolean isAround, FaceSet made) {
            made.empty();
            for (int face = 1; face <= LAST_FACE; face++) {
                boolean isWanted = !isAround || (face & center) == 0;
                if (isWanted && shape.holds(face) && shape.holds(face | center)) {
                    made.add(face);
                }
            }
        }

        static void makeCone(FaceSet shape, int tip, FaceSet made) {
            made.become(shape);
            addJoined(shape, tip, made);
        }

        static void makeLift(FaceSet shape, int tip, int secondTip, FaceSet made) {
            made.become(shape);
            addJoined(shape, tip, made);
            addJoined(shape, secondTip, made);
        }

        private static void addJoined(FaceSet shape, int tip, FaceSet made) {
            made.add(tip);
            for (int face = 1; face <= LAST_FACE; face++) {
                if (shape.holds(face)) {
                    made.add(face | tip);
                }
            }
        }

        static void makeOther(FaceSet shape, int corners, FaceSet made) {
            made.empty();
            for (int face = 1; face < corners; face++) {
                if ((face & corners) == face && !shape.holds(corners ^ face)) {
                    made.add(face);
                }
            }
        }

        static void makeExchanged(FaceSet shape, int one, int second, FaceSet made) {
            made.empty();
            for (int face = 1; face <= LAST_FACE; face++) {
                if (shape.holds(face)) {
                    made.add(exchanged(face, one, second));
                }
            }
        }

        private static int exchanged(int face, int one, int second) {
            boolean hasOne = (face & 1 << one) != 0;
            boolean hasSecond = (face & 1 << second) != 0;
            return hasOne == hasSecond ? face : face ^ (1 << one | 1 << second);
        }

        static void makeGreatest(FaceSet shape, FaceSet made) {
            made.empty();
            for (int face = 1; face <= LAST_FACE; face++) {
                if (shape.holds(face) && !liesInAnother(shape, face)) {
                    made.add(face);
                }
            }
        }

        /** A face with one corner more is enough to look for: a shape has all parts of a greater one. */
        private static boolean liesInAnother(FaceSet shape, int face) {
            for (int corner = 0; corner < CORNERS; corner++) {
                int greater = face | 1 << corner;
                if (greater != face && shape.holds(greater)) {
                    return true;
                }
            }
            return false;
        }
    }

    /** Walks a shape from corner to corner, by its faces of the height 1. */
    private static final class Walk {
        static int countPieces(FaceSet shape) {
            int left = shape.cornerSet();
            int many = 0;
            for (int step = 0; step < CORNERS && left != 0; step++) {
                left &= ~pieceFrom(shape, leastCorner(left));
                many++;
            }
            return many;
        }

        /** The corners of the piece in which a corner, told as a face, is. */
        static int pieceFrom(FaceSet shape, int start) {
            int reached = start;
            int walked = 0;
            for (int step = 0; step < CORNERS && walked != reached; step++) {
                int here = leastCorner(reached & ~walked);
                walked |= here;
                reached |= neighbours(shape, here);
            }
            return reached;
        }

        private static int neighbours(FaceSet shape, int here) {
            int found = 0;
            for (int corner = 0; corner < CORNERS; corner++) {
                int there = 1 << corner;
                if (shape.holds(here | there)) {
                    found |= there;
                }
            }
            return found;
        }

        /** Whether each piece of a shape has an even number of the faces of a row of corners. */
        static boolean areEven(FaceSet row, FaceSet shape) {
            int rowCorners = row.cornerSet();
            int left = shape.cornerSet();
            for (int step = 0; step < CORNERS && left != 0; step++) {
                int piece = pieceFrom(shape, leastCorner(left));
                if (Integer.bitCount(piece & rowCorners) % 2 != 0) {
                    return false;
                }
                left &= ~piece;
            }
            return true;
        }
    }

    /** Borders, and how many of them are free of one another. */
    private static final class Borders {
        /** No height has more faces than this. */
        private static final int SLOTS = 35;

        /** Where a face stands among those of its height: so a row of any height is the bits of one long. */
        private final int[] slotOf;
        /** For each face the bits of its border. */
        private final long[] borderOf;
        /** Borders and sums of them, each at the slot of its lowest bit; 0 where none is kept. */
        private final long[] keptAt;

        Borders() {
            slotOf = new int[LAST_FACE + 1];
            borderOf = new long[LAST_FACE + 1];
            keptAt = new long[SLOTS];
            numberSlots();
            for (int face = 1; face <= LAST_FACE; face++) {
                borderOf[face] = bitsOfBorder(face);
            }
        }

        private void numberSlots() {
            for (int height = 0; height < HEIGHTS; height++) {
                int slot = 0;
                for (int face = 1; face <= LAST_FACE; face++) {
                    if (heightOf(face) == height) {
                        slotOf[face] = slot;
                        slot++;
                    }
                }
            }
        }

        private long bitsOfBorder(int face) {
            long bits = 0L;
            for (int corner = 0; corner < CORNERS; corner++) {
                int part = face & ~(1 << corner);
                if (part != face && part >= 1 && part <= LAST_FACE) {
                    bits |= 1L << slotOf[part];
                }
            }
            return bits;
        }

        static void makeBorder(FaceSet row, FaceSet made) {
            made.empty();
            for (int face = 1; face <= LAST_FACE; face++) {
                if (row.holds(face)) {
                    toggleBorder(face, made);
                }
            }
        }

        private static void toggleBorder(int face, FaceSet made) {
            for (int corner = 0; corner < CORNERS; corner++) {
                int part = face & ~(1 << corner);
                if (part != face && part != NO_FACE) {
                    made.toggle(part);
                }
            }
        }

        /** R of the document, and 0 for the heights beyond its own, so that the sums need no exception. */
        int countFree(FaceSet shape, int height) {
            for (int slot = 0; slot < SLOTS; slot++) {
                keptAt[slot] = 0L;
            }
            int many = 0;
            if (height >= 1 && height < HEIGHTS) {
                for (int face = 1; face <= LAST_FACE; face++) {
                    if (heightOf(face) == height && shape.holds(face) && keepsIfFree(borderOf[face])) {
                        many++;
                    }
                }
            }
            return many;
        }

        private boolean keepsIfFree(long bits) {
            long left = bits;
            for (int slot = 0; slot < SLOTS && left != 0L; slot++) {
                if ((left >>> slot & 1L) != 0L) {
                    if (keptAt[slot] == 0L) {
                        keptAt[slot] = left;
                        return true;
                    }
                    left ^= keptAt[slot];
                }
            }
            return false;
        }

        private boolean isSumOfKept(long bits) {
            long left = bits;
            for (int slot = 0; slot < SLOTS; slot++) {
                if ((left >>> slot & 1L) != 0L) {
                    left ^= keptAt[slot];
                }
            }
            return left == 0L;
        }

        int countHoles(FaceSet shape, int height) {
            if (shape.isEmpty()) {
                return 0;
            }
            int lost = height == 0 ? LOST_CORNERS : countFree(shape, height);
            return shape.countAt(height) - lost - countFree(shape, height + 1);
        }

        boolean isFilling(FaceSet row, FaceSet shape) {
            if (row.isEmpty()) {
                return true;
            }
            countFree(shape, heightOf(row.faceAt(0)) + 1);
            long bits = 0L;
            for (int face = 1; face <= LAST_FACE; face++) {
                if (row.holds(face)) {
                    bits |= 1L << slotOf[face];
                }
            }
            return isSumOfKept(bits);
        }
    }

    /** How many holes of each height a shape has. */
    private static final class HoleRow {
        private final int[] many;

        HoleRow() {
            many = new int[HEIGHTS];
        }

        void tell(FaceSet shape, Borders borders) {
            int lost = LOST_CORNERS;
            for (int height = 0; height < HEIGHTS; height++) {
                int freeAbove = borders.countFree(shape, height + 1);
                many[height] = shape.isEmpty() ? 0 : shape.countAt(height) - lost - freeAbove;
                lost = freeAbove;
            }
        }

        int at(int height) {
            return height >= 0 && height < HEIGHTS ? many[height] : 0;
        }

        boolean areNone() {
            for (int height = 0; height < HEIGHTS; height++) {
                if (many[height] != 0) {
                    return false;
                }
            }
            return true;
        }

        int signedSum() {
            int sum = 0;
            for (int height = 0; height < HEIGHTS; height++) {
                sum += height % 2 == 0 ? many[height] : -many[height];
            }
            return sum;
        }

        /** Whether these are as those before, but at one height, where there are so many more. */
        boolean differAt(int height, int more, HoleRow before) {
            for (int each = 0; each < HEIGHTS; each++) {
                int due = each == height ? before.at(each) + more : before.at(each);
                if (many[each] != due) {
                    return false;
                }
            }
            return true;
        }

        boolean areLike(HoleRow second) {
            return differAt(0, 0, second);
        }
    }

    /** Tries what the theorem of the document tells; where it tells nothing, nothing is wrong. */
    private static final class Theorem {
        private final Borders borders;
        private final FaceSet made;
        private final FaceSet second;
        private final HoleRow holesBefore;
        private final HoleRow holesAfter;
        private final HoleRow holesSecond;

        Theorem() {
            borders = new Borders();
            made = new FaceSet();
            second = new FaceSet();
            holesBefore = new HoleRow();
            holesAfter = new HoleRow();
            holesSecond = new HoleRow();
        }

        /** The same ones serve what is no try of the theorem: an object needs their rows but once. */
        Borders borders() {
            return borders;
        }

        /** (1), for a row, and for the row in a shape, if this has all of its faces. */
        boolean tellsRow(FaceSet row, FaceSet shape) {
            Borders.makeBorder(row, made);
            boolean isRound = made.isEmpty();
            Borders.makeBorder(made, second);
            if (!second.isEmpty()) {
                return false;
            }
            return !shape.holdsAll(row) || tellsFilling(row, isRound, shape);
        }

        private boolean tellsFilling(FaceSet row, boolean isRound, FaceSet shape) {
            boolean isFilling = borders.isFilling(row, shape);
            if (isFilling && !isRound) {
                return false;
            }
            if (row.isEmpty()) {
                return isFilling;
            }
            int height = heightOf(row.faceAt(0));
            if (height == 0) {
                return isFilling == Walk.areEven(row, shape);
            }
            return isFilling || !isRound || borders.countHoles(shape, height) != 0;
        }

        /** (2). */
        boolean tellsPieces(FaceSet shape) {
            if (shape.isEmpty()) {
                return true;
            }
            int many = Walk.countPieces(shape);
            return many == shape.countAt(0) - borders.countFree(shape, 1)
                    && many == borders.countHoles(shape, 0) + 1;
        }

        /** (3). */
        boolean tellsSignedCount(FaceSet shape) {
            if (shape.isEmpty()) {
                return true;
            }
            holesBefore.tell(shape, borders);
            return shape.signedCount() == holesBefore.signedSum() + 1;
        }

        /** (4), with the least new corner. */
        boolean tellsCone(FaceSet shape) {
            int tip = leastCorner(LAST_FACE & ~shape.cornerSet());
            if (tip == NO_FACE) {
                return true;
            }
            Making.makeCone(shape, tip, made);
            return isOneWithoutHoles(made);
        }

        /** (4), for the faces about a face. */
        boolean tellsAbout(FaceSet shape, int face) {
            Making.makeAbout(shape, face, false, made);
            return isOneWithoutHoles(made);
        }

        private boolean isOneWithoutHoles(FaceSet shape) {
            holesAfter.tell(shape, borders);
            return holesAfter.areNone() && Walk.countPieces(shape) == 1;
        }

        /** (5), with the two least new corners. */
        boolean tellsLift(FaceSet shape) {
            int unused = LAST_FACE & ~shape.cornerSet();
            int tip = leastCorner(unused);
            int secondTip = leastCorner(unused & ~tip);
            if (shape.isEmpty() || secondTip == NO_FACE) {
                return true;
            }
            Making.makeLift(shape, tip, secondTip, made);
            holesBefore.tell(shape, borders);
            holesAfter.tell(made, borders);
            for (int height = 0; height <= HEIGHTS; height++) {
                if (holesAfter.at(height) != holesBefore.at(height - 1)) {
                    return false;
                }
            }
            return true;
        }

        /** (6). */
        boolean tellsTouching(FaceSet one, FaceSet other) {
            made.becomeMeeting(one, other);
            if (made.count() != 1) {
                return true;
            }
            made.becomeUnion(one, other);
            holesBefore.tell(one, borders);
            holesSecond.tell(other, borders);
            holesAfter.tell(made, borders);
            for (int height = 0; height < HEIGHTS; height++) {
                if (holesAfter.at(height) != holesBefore.at(height) + holesSecond.at(height)) {
                    return false;
                }
            }
            return true;
        }

        /** (7), of a face that lies in just one greater. */
        boolean tellsFold(FaceSet shape, int face) {
            if (shape.countOver(face) != 1) {
                return true;
            }
            made.become(shape);
            made.remove(shape.firstOver(face));
            made.remove(face);
            holesBefore.tell(shape, borders);
            holesAfter.tell(made, borders);
            return holesAfter.areLike(holesBefore);
        }

        /** (7), of a face that lies in no other. */
        boolean tellsTaking(FaceSet shape, int face) {
            if (shape.countOver(face) != 0 || shape.count() == 1) {
                return true;
            }
            made.become(shape);
            made.remove(face);
            holesBefore.tell(shape, borders);
            holesAfter.tell(made, borders);
            int height = heightOf(face);
            return holesAfter.differAt(height, -1, holesBefore)
                    || height > 0 && holesAfter.differAt(height - 1, 1, holesBefore);
        }

        /** (8). */
        boolean tellsSums(FaceSet one, FaceSet other) {
            made.becomeMeeting(one, other);
            second.becomeUnion(one, other);
            for (int height = 0; height < HEIGHTS; height++) {
                int both = one.countAt(height) + other.countAt(height);
                if (made.countAt(height) + second.countAt(height) != both) {
                    return false;
                }
            }
            return true;
        }

        /** (9), over some corners, among which all of the shape are. */
        boolean tellsOther(FaceSet shape, int corners) {
            int among = Integer.bitCount(corners);
            if (among < 2 || shape.holds(corners)) {
                return true;
            }
            Making.makeOther(shape, corners, made);
            Making.makeOther(made, corners, second);
            return second.isLike(shape) && (shape.isEmpty() || isRim(shape, among) || areOpposed(shape, among));
        }

        /** A shape over so many corners, not full, is their rim just if it has all faces but one. */
        private static boolean isRim(FaceSet shape, int among) {
            return shape.count() == (1 << among) - 2;
        }

        private boolean areOpposed(FaceSet shape, int among) {
            holesBefore.tell(shape, borders);
            holesAfter.tell(made, borders);
            int top = among - 3;
            for (int height = 0; height < HEIGHTS; height++) {
                boolean isAbove = height > top;
                int due = isAbove ? 0 : holesAfter.at(top - height);
                if (holesBefore.at(height) != due || isAbove && holesAfter.at(height) != 0) {
                    return false;
                }
            }
            return true;
        }

        /** (10). */
        boolean tellsExchange(FaceSet shape, int one, int other) {
            Making.makeExchanged(shape, one, other, made);
            for (int height = 0; height < HEIGHTS; height++) {
                if (made.countAt(height) != shape.countAt(height)) {
                    return false;
                }
            }
            holesBefore.tell(shape, borders);
            holesAfter.tell(made, borders);
            return holesAfter.areLike(holesBefore) && Walk.countPieces(made) == Walk.countPieces(shape);
        }
    }
}
