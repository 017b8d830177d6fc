import java.util.NoSuchElementException;

/** Promises 25 to 29: each sentence that names an edge, by a test of its own. */
public final class HoleEdgesTest {
    private static final Class<IllegalArgumentException> BAD = IllegalArgumentException.class;
    private static final Class<NoSuchElementException> ABSENT = NoSuchElementException.class;
    private static final int ALL = 127;

    /** The places of the object that most tests here look at. */
    private static final int FULL = 0;
    private static final int RIM = 1;
    private static final int NONE = 2;
    private static final int SEVEN_CORNERS = 3;
    private static final int TWO_CORNERS = 4;
    private static final int LONE = 5;

    private static final Check check = new Check("HoleEdgesTest");

    public static void main(String[] args) {
        piecesOfEach();
        areJoinedWithItself();
        areJoinedInEach();
        areJoinedOfWhatIsNotThere();
        areJoinedOfNoCorner();
        freeOfEachHeight();
        freeOfNoHeight();
        freeOfRims();
        holesOfEachHeight();
        holesOfNone();
        holesOfTheGreatestHeight();
        signedOfEach();
        check.end();
    }

    private static Works edges() {
        Works x = new Works();
        x.full(ALL, false, FULL);
        x.full(ALL, true, RIM);
        x.low(FULL, 0, SEVEN_CORNERS);
        x.full(65, true, TWO_CORNERS);
        x.put(LONE, 64);
        return x;
    }

    private static void piecesOfEach() {
        check.sentence("25: Tells how many pieces a shape has");
        Works x = edges();
        check.tells("the full", x, 1, () -> x.pieces(FULL));
        check.tells("the rim", x, 1, () -> x.pieces(RIM));
        check.tells("none", x, 0, () -> x.pieces(NONE));
        check.tells("seven corners", x, 7, () -> x.pieces(SEVEN_CORNERS));
        check.tells("two corners", x, 2, () -> x.pieces(TWO_CORNERS));
        check.tells("a lone corner", x, 1, () -> x.pieces(LONE));
        x.put(SEVEN_CORNERS, 65);
        check.tells("the first and the last joined", x, 6, () -> x.pieces(SEVEN_CORNERS));
    }

    private static void areJoinedWithItself() {
        check.sentence("26: joined, also if they are the same");
        for (int corner = 0; corner < 7; corner++) {
            int each = corner;
            Works x = edges();
            check.tells("in the full", x, true, () -> x.areJoined(FULL, each, each));
            check.tells("in the rim", x, true, () -> x.areJoined(RIM, each, each));
            check.tells("among seven", x, true, () -> x.areJoined(SEVEN_CORNERS, each, each));
            Works lone = Check.worksWith(2, 1 << corner);
            check.tells("alone", lone, true, () -> lone.areJoined(2, each, each));
        }
    }

    private static void areJoinedInEach() {
        check.sentence("26: Returns whether they are joined");
        for (int one = 0; one < 7; one++) {
            for (int other = 0; other < 7; other++) {
                int a = one;
                int b = other;
                Works x = edges();
                check.tells("in the full", x, true, () -> x.areJoined(FULL, a, b));
                check.tells("in the rim", x, true, () -> x.areJoined(RIM, a, b));
                check.tells("among seven", x, a == b, () -> x.areJoined(SEVEN_CORNERS, a, b));
            }
        }
        Works x = edges();
        check.tells("two corners", x, false, () -> x.areJoined(TWO_CORNERS, 0, 6));
        Works path = Check.worksWith(0, 65, 96, 48, 24, 12, 6);
        check.tells("both ends of a path", path, true, () -> path.areJoined(0, 0, 1));
        check.tells("both ends, turned", path, true, () -> path.areJoined(0, 1, 0));
    }

    private static void areJoinedOfWhatIsNotThere() {
        check.sentence("26: Throws NoSuchElementException if one of them is no corner of the shape");
        Works x = edges();
        check.refuses("in none", x, ABSENT, () -> x.areJoined(NONE, 0, 6));
        check.refuses("in none, the same", x, ABSENT, () -> x.areJoined(NONE, 3, 3));
        check.refuses("only the first is one", x, ABSENT, () -> x.areJoined(LONE, 6, 0));
        check.refuses("only the second is one", x, ABSENT, () -> x.areJoined(LONE, 0, 6));
        check.refuses("none of both", x, ABSENT, () -> x.areJoined(LONE, 0, 5));
        check.refuses("none of both, the same", x, ABSENT, () -> x.areJoined(LONE, 5, 5));
    }

    private static void areJoinedOfNoCorner() {
        check.sentence("26: IllegalArgumentException comes before NoSuchElementException");
        Works x = edges();
        for (int bad : new int[] {-1, 7, 31, 32, 38, Integer.MIN_VALUE, Integer.MAX_VALUE}) {
            check.refuses("in none first " + bad, x, BAD, () -> x.areJoined(NONE, bad, 0));
            check.refuses("in none second " + bad, x, BAD, () -> x.areJoined(NONE, 0, bad));
            check.refuses("in all twice " + bad, x, BAD, () -> x.areJoined(FULL, bad, bad));
            check.refuses("a lone one and " + bad, x, BAD, () -> x.areJoined(LONE, 6, bad));
        }
    }

    private static void freeOfEachHeight() {
        check.sentence("27: the greatest number of borders that are free of one another; 1 to 6");
        int[] due = {0, 6, 15, 20, 15, 6, 1};
        for (int height = 1; height <= 6; height++) {
            int each = height;
            Works x = edges();
            check.tells("the full of " + height, x, due[height], () -> x.free(FULL, each));
            check.tells("the rim of " + height, x, height == 6 ? 0 : due[height], () -> x.free(RIM, each));
            check.tells("none of " + height, x, 0, () -> x.free(NONE, each));
            check.tells("seven corners of " + height, x, 0, () -> x.free(SEVEN_CORNERS, each));
            check.tells("a lone corner of " + height, x, 0, () -> x.free(LONE, each));
        }
    }

    private static void freeOfNoHeight() {
        check.sentence("27: Throws IllegalArgumentException if there is no such height: 0 and 7 are none");
        Works x = edges();
        for (int place = 0; place < Works.PLACES; place++) {
            int each = place;
            for (int bad : new int[] {0, 7, -1, Integer.MIN_VALUE, Integer.MAX_VALUE}) {
                check.refuses("at " + place + " of " + bad, x, BAD, () -> x.free(each, bad));
            }
        }
    }

    private static void freeOfRims() {
        check.sentence("27: of a rim's greatest faces all but one are free, of one face its own");
        for (int corners = 3; corners <= ALL; corners++) {
            int many = Integer.bitCount(corners);
            if (many >= 2) {
                Works x = new Works();
                x.full(corners, false, 0);
                x.full(corners, true, 1);
                check.answers("the full of " + corners, 1, () -> x.free(0, many - 1));
                check.answers("its rim", 0, () -> x.free(1, many - 1));
                if (many >= 3) {
                    check.answers("the greatest of its rim", many - 1, () -> x.free(1, many - 2));
                }
            }
        }
    }

    private static void holesOfEachHeight() {
        check.sentence("28: Tells how many holes of a height a shape has; 0 to 6");
        for (int height = 0; height <= 6; height++) {
            int each = height;
            Works x = edges();
            check.tells("the full of " + height, x, 0, () -> x.holes(FULL, each));
            check.tells("the rim of " + height, x, height == 5 ? 1 : 0, () -> x.holes(RIM, each));
            check.tells("seven corners of " + height, x, height == 0 ? 6 : 0, () -> x.holes(SEVEN_CORNERS, each));
            check.tells("two corners of " + height, x, height == 0 ? 1 : 0, () -> x.holes(TWO_CORNERS, each));
            check.tells("a lone corner of " + height, x, 0, () -> x.holes(LONE, each));
        }
    }

    private static void holesOfNone() {
        check.sentence("28: of a shape without faces there are none");
        for (int height = 0; height <= 6; height++) {
            int each = height;
            for (int place = 0; place < Works.PLACES; place++) {
                int where = place;
                Works x = new Works();
                check.tells("of " + height + " at " + place, x, 0, () -> x.holes(where, each));
                Works y = Check.worksWith(place, ALL);
                y.take(place, 1);
                y.clear(place);
                check.tells("of " + height + " at the cleared " + place, y, 0, () -> y.holes(where, each));
            }
        }
    }

    private static void holesOfTheGreatestHeight() {
        check.sentence("28: R(7) is 0");
        for (Scene scene : Scene.EDGES) {
            for (int place = 0; place < Works.PLACES; place++) {
                int each = place;
                Works x = scene.newWorks();
                int due = x.faces(place, 6) - x.free(place, 6);
                check.same("one border of one face", 0, due);
                check.tells(scene.name() + " at " + place, x, due, () -> x.holes(each, 6));
            }
        }
    }

    private static void signedOfEach() {
        check.sentence("29: the number of faces, those of an odd height with the sign -");
        Works x = edges();
        check.tells("the full", x, 1, () -> x.signed(FULL));
        check.tells("the rim", x, 0, () -> x.signed(RIM));
        check.tells("none", x, 0, () -> x.signed(NONE));
        check.tells("seven corners", x, 7, () -> x.signed(SEVEN_CORNERS));
        check.tells("a lone corner", x, 1, () -> x.signed(LONE));
        x.low(FULL, 1, LONE);
        check.tells("all up to 1", x, -14, () -> x.signed(LONE));
        for (int corners = 1; corners <= ALL; corners++) {
            int many = Integer.bitCount(corners);
            Works y = new Works();
            y.full(corners, true, 0);
            check.answers("the rim of " + corners, many % 2 == 0 ? 2 : 0, () -> y.signed(0));
        }
    }
}
