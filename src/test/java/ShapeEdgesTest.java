import java.util.ArrayList;
import java.util.Arrays;
import java.util.Collections;
import java.util.List;
import java.util.NoSuchElementException;

/** Promises 1 to 15: each sentence that names an edge, by a test of its own. */
public final class ShapeEdgesTest {
    private static final Class<IllegalArgumentException> BAD = IllegalArgumentException.class;
    private static final Class<NoSuchElementException> ABSENT = NoSuchElementException.class;
    private static final Class<IllegalStateException> STATE = IllegalStateException.class;
    private static final int ALL = 127;

    /** The calls that make a shape for a place, which is their last argument, of shapes at the places 0 and 1. */
    private static final String[] MAKING = {
        "copy", "unite", "meet", "full", "full", "low", "about", "about", "cone", "lift", "other", "exchange",
    };
    private static final int[][] MADE_OF = {
        {0}, {0, 1}, {0, 1}, {82, 0}, {82, 1}, {0, 1}, {0, 2, 0}, {0, 2, 1}, {0, 6}, {0, 6, 4}, {0, 47}, {0, 1, 6},
    };

    private static final Check check = new Check("ShapeEdgesTest");

    public static void main(String[] args) {
        newObject();
        putReturnsNewOnes();
        putAtTheEnds();
        takeTakesAllOver();
        takeOfWhatIsNotThere();
        clearOfEach();
        copyOfEach();
        uniteOfEdges();
        uniteAtOnePlace();
        meetOfEdges();
        meetAtOnePlace();
        fullOfEach();
        lowOfEach();
        lowAtOnePlace();
        aboutInFull();
        aboutInRim();
        aboutInLone();
        aboutAtOnePlace();
        coneOfEach();
        coneWithItsOwn();
        liftOfEach();
        liftWithItsOwn();
        liftWithOneTwice();
        otherOfEach();
        otherOverOne();
        otherWithOneNotAmong();
        exchangeOfEach();
        exchangeOfOne();
        exchangeReturnsWhatPlaceHasNot();
        foldInJustOne();
        foldInNone();
        foldInMore();
        replacesWhatItHas();
        readsBeforeItWrites();
        check.end();
    }

    /** The faces of some corners, in the order of their numbers, perhaps without that of all of them. */
    private static List<Integer> parts(int corners, boolean isRim) {
        List<Integer> parts = new ArrayList<>();
        for (int face = 1; face <= corners; face++) {
            if ((face & ~corners) == 0 && !(isRim && face == corners)) {
                parts.add(face);
            }
        }
        return parts;
    }

    private static Works full(int place, int corners, boolean isRim) {
        Works x = new Works();
        x.full(corners, isRim, place);
        return x;
    }

    private static void has(String what, Works x, int place, Integer... due) {
        check.same(what, List.of(due), x.facesAt(place));
    }

    private static void onlyAt(String what, Works x, int place, List<Integer> due) {
        for (int each = 0; each < Works.PLACES; each++) {
            check.same(what + " at " + each, each == place ? due : List.of(), x.facesAt(each));
        }
    }

    private static void newObject() {
        check.sentence("1: All shapes are without faces, the row has none");
        Works x = new Works();
        check.same("all", Collections.nCopies(Works.PLACES + 1, List.of()), x.kept());
        Works busy = full(0, ALL, false);
        busy.flip(ALL);
        check.same("all of a third", new Works().kept(), x.kept());
        check.answers("its first size", 0, () -> x.size(0));
        check.answers("its row", 0, () -> x.drop());
    }

    private static void putReturnsNewOnes() {
        check.sentence("2: Returns how many faces are new");
        Works x = new Works();
        check.answers("all in none", 127, () -> x.put(0, ALL));
        check.answers("all in all", 0, () -> x.put(0, ALL));
        check.answers("a corner in all", 0, () -> x.put(0, 64));
        Works rim = full(0, ALL, true);
        check.answers("all in their rim", 1, () -> rim.put(0, ALL));
        check.same("the full one", parts(ALL, false), rim.facesAt(0));
        Works lone = Check.worksWith(0, 1);
        check.answers("the corner again", 0, () -> lone.put(0, 1));
        check.answers("an edge of it", 2, () -> lone.put(0, 65));
        check.answers("an edge beside it", 3, () -> lone.put(0, 6));
        has("all of them", lone, 0, 1, 2, 4, 6, 64, 65);
    }

    private static void putAtTheEnds() {
        check.sentence("2: place 0 to 5, face 1 to 127, adds a face and all of its parts");
        for (int place = 0; place < Works.PLACES; place++) {
            for (int face = 1; face <= ALL; face++) {
                Works x = new Works();
                int many = (1 << Integer.bitCount(face)) - 1;
                check.same("put " + face, many, x.put(place, face));
                check.same("its parts", parts(face, false), x.facesAt(place));
            }
            Works x = new Works();
            x.put(place, 5);
            onlyAt("put at " + place, x, place, List.of(1, 4, 5));
        }
    }

    private static void takeTakesAllOver() {
        check.sentence("3: Takes a face, and all faces in which it lies; returns how many are gone");
        for (int face = 1; face <= ALL; face++) {
            int over = 1 << 7 - Integer.bitCount(face);
            Works x = full(5, ALL, false);
            check.same("take " + face + " of all", over, x.take(5, face));
            List<Integer> rest = parts(ALL, false);
            int taken = face;
            rest.removeIf(each -> (each & taken) == taken);
            check.same("the rest without " + face, rest, x.facesAt(5));
            Works rim = full(5, ALL, true);
            check.same("take " + face + " of the rim", face == ALL ? "NoSuchElementException" : over - 1,
                    Check.answerOf(() -> rim.take(5, taken)));
        }
        Works lone = Check.worksWith(0, 64);
        check.answers("take the lone corner", 1, () -> lone.take(0, 64));
        has("none", lone, 0);
    }

    private static void takeOfWhatIsNotThere() {
        check.sentence("3: Throws NoSuchElementException if the shape does not have it");
        Works none = new Works();
        check.refuses("the least of none", none, ABSENT, () -> none.take(0, 1));
        check.refuses("the greatest of none", none, ABSENT, () -> none.take(5, ALL));
        Works lone = Check.worksWith(0, 1);
        check.refuses("another corner", lone, ABSENT, () -> lone.take(0, 2));
        check.refuses("an edge of the corner", lone, ABSENT, () -> lone.take(0, 3));
        check.refuses("the corner of another place", lone, ABSENT, () -> lone.take(1, 1));
        Works rim = full(0, ALL, true);
        check.refuses("all of the rim", rim, ABSENT, () -> rim.take(0, ALL));
    }

    private static void clearOfEach() {
        check.sentence("4: Takes all faces out of a shape, returns how many are gone");
        for (int place = 0; place < Works.PLACES; place++) {
            int each = place;
            for (Scene scene : Scene.EDGES) {
                Works x = scene.newWorks();
                List<List<Integer>> due = x.kept();
                check.answers("clear " + place, due.get(place).size(), () -> x.clear(each));
                due.set(place, List.of());
                check.same("all but the cleared", due, x.kept());
                check.answers("clear again", 0, () -> x.clear(each));
            }
        }
    }

    private static void copyOfEach() {
        check.sentence("5: Makes a shape as another one, returns how many faces it has then");
        for (Scene scene : Scene.EDGES) {
            for (int place = 0; place < Works.PLACES; place++) {
                for (int to = 0; to < Works.PLACES; to++) {
                    Works x = scene.newWorks();
                    List<List<Integer>> due = x.kept();
                    due.set(to, due.get(place));
                    check.same("copy " + place + " to " + to, due.get(place).size(), x.copy(place, to));
                    check.same("all after copy " + place + " to " + to, due, x.kept());
                }
            }
        }
        Works x = full(0, ALL, false);
        x.copy(0, 5);
        x.clear(0);
        check.answers("the copy stays", 127, () -> x.size(5));
    }

    private static void uniteOfEdges() {
        check.sentence("6: all faces that at least one of two shapes has");
        Works x = new Works();
        x.full(ALL, false, 0);
        x.full(ALL, true, 1);
        x.put(2, 64);
        check.answers("none and none", 0, () -> x.unite(4, 5, 3));
        has("none", x, 3);
        check.answers("none and a corner", 1, () -> x.unite(4, 2, 3));
        check.answers("a corner and none", 1, () -> x.unite(2, 4, 3));
        has("the corner", x, 3, 64);
        check.answers("the rim and a corner", 126, () -> x.unite(1, 2, 3));
        check.answers("the rim and the full", 127, () -> x.unite(1, 0, 3));
        check.answers("the full and none", 127, () -> x.unite(0, 5, 3));
        x.put(4, 1);
        check.answers("two corners", 2, () -> x.unite(2, 4, 3));
        has("two corners", x, 3, 1, 64);
    }

    private static void uniteAtOnePlace() {
        check.sentence("6: it may be the same place; the place that gets it in place of what it has");
        for (int place = 0; place < Works.PLACES; place++) {
            int each = place;
            int next = (place + 1) % Works.PLACES;
            Works x = Check.worksWith(place, 3, 64);
            check.answers("with itself, to itself", 4, () -> x.unite(each, each, each));
            has("as it was", x, place, 1, 2, 3, 64);
            x.full(ALL, false, next);
            check.answers("with itself, on another", 4, () -> x.unite(each, each, next));
            has("the same", x, next, 1, 2, 3, 64);
            x.full(6, false, next);
            check.answers("to the first", 6, () -> x.unite(each, next, each));
            has("the first", x, place, 1, 2, 3, 4, 6, 64);
            has("the second stays", x, next, 2, 4, 6);
            x.full(8, false, place);
            check.answers("to the second", 4, () -> x.unite(each, next, next));
            has("the second", x, next, 2, 4, 6, 8);
            has("the first stays", x, place, 8);
        }
    }

    private static void meetOfEdges() {
        check.sentence("7: all faces that both of two shapes have");
        Works x = new Works();
        x.full(ALL, false, 0);
        x.full(ALL, true, 1);
        x.put(2, 64);
        check.answers("the full and the rim", 126, () -> x.meet(0, 1, 3));
        check.answers("none and the full", 0, () -> x.meet(4, 0, 3));
        has("none", x, 3);
        check.answers("the full and none", 0, () -> x.meet(0, 4, 3));
        check.answers("none and none", 0, () -> x.meet(4, 5, 3));
        check.answers("the full and a corner", 1, () -> x.meet(0, 2, 3));
        has("the corner", x, 3, 64);
        x.put(4, 1);
        check.answers("two corners", 0, () -> x.meet(2, 4, 3));
        has("nothing together", x, 3);
    }

    private static void meetAtOnePlace() {
        check.sentence("7: it may be the same place; the place that gets it in place of what it has");
        for (int place = 0; place < Works.PLACES; place++) {
            int each = place;
            int next = (place + 1) % Works.PLACES;
            Works x = Check.worksWith(place, 3, 64);
            check.answers("with itself, to itself", 4, () -> x.meet(each, each, each));
            has("as it was", x, place, 1, 2, 3, 64);
            x.full(ALL, false, next);
            check.answers("with itself, on another", 4, () -> x.meet(each, each, next));
            has("the same", x, next, 1, 2, 3, 64);
            x.full(66, false, next);
            check.answers("to the first", 2, () -> x.meet(each, next, each));
            has("the first", x, place, 2, 64);
            has("the second stays", x, next, 2, 64, 66);
            check.answers("to the second", 2, () -> x.meet(each, next, next));
            has("the second", x, next, 2, 64);
            has("the first stays", x, place, 2, 64);
        }
    }

    private static void fullOfEach() {
        check.sentence("8: full over some corners, or the rim of them, in place of what it has");
        for (int corners = 1; corners <= ALL; corners++) {
            int many = (1 << Integer.bitCount(corners)) - 1;
            for (int place = 0; place < Works.PLACES; place++) {
                Works x = full(place, ALL - corners + 1, false);
                check.same("full of " + corners, many, x.full(corners, false, place));
                check.same("full of " + corners, parts(corners, false), x.facesAt(place));
                check.same("rim of " + corners, many - 1, x.full(corners, true, place));
                check.same("rim of " + corners, parts(corners, true), x.facesAt(place));
            }
        }
        Works x = full(2, ALL, false);
        onlyAt("full at 2", x, 2, parts(ALL, false));
    }

    private static void lowOfEach() {
        check.sentence("9: the faces of a shape up to a height, 0 to 6");
        int[] dueRim = {7, 28, 63, 98, 119, 126, 126};
        for (int height = 0; height < 7; height++) {
            int each = height;
            Works x = full(0, ALL, true);
            check.answers("the rim up to " + height, dueRim[height], () -> x.low(0, each, 1));
            x.put(2, 64);
            check.answers("a corner up to " + height, 1, () -> x.low(2, each, 3));
            has("the corner", x, 3, 64);
            check.answers("none up to " + height, 0, () -> x.low(4, each, 3));
            has("none", x, 3);
        }
        Works full = full(0, ALL, false);
        check.answers("the full up to 5", 126, () -> full.low(0, 5, 1));
        check.same("it is the rim", parts(ALL, true), full.facesAt(1));
        check.answers("the full up to 6", 127, () -> full.low(0, 6, 1));
        check.same("it is the full", parts(ALL, false), full.facesAt(1));
        check.answers("the full up to 0", 7, () -> full.low(0, 0, 1));
        has("its corners", full, 1, 1, 2, 4, 8, 16, 32, 64);
    }

    private static void lowAtOnePlace() {
        check.sentence("9: the place that gets it in place of what it has");
        for (int place = 0; place < Works.PLACES; place++) {
            int each = place;
            Works x = Check.worksWith(place, 7, 72);
            check.answers("up to 1", 9, () -> x.low(each, 1, each));
            has("up to 1", x, place, 1, 2, 3, 4, 5, 6, 8, 64, 72);
        }
    }

    private static void aboutInFull() {
        check.sentence("10: the faces about a face, or those around it; those have no corner of it");
        for (int corners = 1; corners <= ALL; corners += 3) {
            for (int face : parts(corners, false)) {
                Works x = full(4, corners, false);
                List<Integer> about = parts(corners, false);
                check.same("about " + face + " in " + corners, about.size(), x.about(4, face, false, 5));
                check.same("all are about it", about, x.facesAt(5));
                List<Integer> around = parts(corners & ~face, false);
                check.same("around " + face + " in " + corners, around.size(), x.about(4, face, true, 5));
                check.same("the others are around it", around, x.facesAt(5));
            }
        }
    }

    private static void aboutInRim() {
        check.sentence("10: those faces whose corners, with those of this one, are a face of the shape");
        for (int face = 1; face < ALL; face++) {
            Works x = full(0, ALL, true);
            int each = face;
            List<Integer> about = parts(ALL, true);
            about.removeIf(other -> (other | each) == ALL);
            check.same("about " + face, about.size(), x.about(0, face, false, 1));
            check.same("about " + face, about, x.facesAt(1));
            List<Integer> around = parts(ALL & ~face, true);
            check.same("around " + face, around.size(), x.about(0, face, true, 1));
            check.same("around " + face, around, x.facesAt(1));
        }
        Works x = full(0, ALL, true);
        check.refuses("about what only the full one has", x, ABSENT, () -> x.about(0, ALL, false, 1));
        check.refuses("around what only the full one has", x, ABSENT, () -> x.about(0, ALL, true, 1));
    }

    private static void aboutInLone() {
        check.sentence("10: a face is about itself, and not around itself");
        for (int corner = 0; corner < 7; corner++) {
            int face = 1 << corner;
            Works x = Check.worksWith(0, face);
            check.answers("about a lone corner", 1, () -> x.about(0, face, false, 1));
            has("itself", x, 1, face);
            check.answers("around a lone corner", 0, () -> x.about(0, face, true, 1));
            has("none", x, 1);
            check.refuses("about an edge of it", x, ABSENT, () -> x.about(0, face == 1 ? 3 : face + 1, false, 1));
        }
        Works none = new Works();
        check.refuses("about one of none", none, ABSENT, () -> none.about(0, 1, false, 0));
        check.refuses("around all of none", none, ABSENT, () -> none.about(5, ALL, true, 5));
    }

    private static void aboutAtOnePlace() {
        check.sentence("10: the place that gets it in place of what it has");
        for (int place = 0; place < Works.PLACES; place++) {
            int each = place;
            Works x = Check.worksWith(place, 7, 12, 64);
            check.answers("about, to itself", 9, () -> x.about(each, 4, false, each));
            has("about, to itself", x, place, 1, 2, 3, 4, 5, 6, 7, 8, 12);
            check.answers("around, to itself", 4, () -> x.about(each, 4, true, each));
            has("around, to itself", x, place, 1, 2, 3, 8);
        }
    }

    private static void coneOfEach() {
        check.sentence("11: a shape, a new corner, and each face of it with this corner");
        for (int corner = 0; corner < 7; corner++) {
            int each = corner;
            int tip = 1 << corner;
            Works x = new Works();
            check.answers("of none", 1, () -> x.cone(0, each, 5));
            has("of none", x, 5, tip);
            x.full(ALL - tip, false, 1);
            check.answers("of the full other six", 127, () -> x.cone(1, each, 2));
            check.same("of the full other six", parts(ALL, false), x.facesAt(2));
            x.full(ALL - tip, true, 1);
            check.answers("of the rim of the other six", 125, () -> x.cone(1, each, 1));
            List<Integer> due = parts(ALL, true);
            due.remove(Integer.valueOf(ALL - tip));
            check.same("of the rim, to itself", due, x.facesAt(1));
            int lone = tip == 64 ? 1 : 2 * tip;
            x.put(3, lone);
            check.answers("of a lone corner", 3, () -> x.cone(3, each, 3));
            check.same("an edge", parts(lone + tip, false), x.facesAt(3));
        }
    }

    private static void coneWithItsOwn() {
        check.sentence("11: Throws IllegalStateException if it is a corner of the shape");
        Works x = new Works();
        x.full(ALL, false, 0);
        x.full(ALL, true, 1);
        for (int corner = 0; corner < 7; corner++) {
            int each = corner;
            check.refuses("of the full", x, STATE, () -> x.cone(0, each, 2));
            check.refuses("of the rim", x, STATE, () -> x.cone(1, each, 1));
            Works lone = Check.worksWith(3, 1 << corner);
            check.refuses("of the corner", lone, STATE, () -> lone.cone(3, each, 2));
            Works again = new Works();
            again.cone(0, corner, 0);
            check.refuses("twice with it", again, STATE, () -> again.cone(0, each, 0));
        }
    }

    private static void liftOfEach() {
        check.sentence("12: a shape, two new corners, and each face of it with the one and with the other");
        for (int one = 0; one < 7; one++) {
            for (int other = 0; other < 7; other++) {
                if (one != other) {
                    liftWith(one, other);
                }
            }
        }
    }

    private static void liftWith(int one, int other) {
        int tip = 1 << one;
        int second = 1 << other;
        Works x = new Works();
        check.answers("of none", 2, () -> x.lift(0, one, other, 5));
        has("of none", x, 5, Math.min(tip, second), Math.max(tip, second));
        int rest = ALL - tip - second;
        x.full(rest, false, 1);
        check.answers("of the full other five", 95, () -> x.lift(1, one, other, 1));
        List<Integer> due = parts(ALL, false);
        due.removeIf(face -> (face & tip) != 0 && (face & second) != 0);
        check.same("of the full, to itself", due, x.facesAt(1));
        x.full(rest, true, 2);
        check.answers("of the rim of the other five", 92, () -> x.lift(2, one, other, 3));
        int lone = rest & -rest;
        x.full(lone, false, 4);
        check.answers("of a lone corner", 5, () -> x.lift(4, one, other, 4));
        due.removeIf(face -> (face & ~(tip | second | lone)) != 0);
        check.same("a path", due, x.facesAt(4));
    }

    private static void liftWithItsOwn() {
        check.sentence("12: Throws IllegalStateException if one of them is a corner of the shape");
        Works x = Check.worksWith(0, 1, 64);
        check.refuses("the first", x, STATE, () -> x.lift(0, 0, 3, 0));
        check.refuses("the second", x, STATE, () -> x.lift(0, 3, 6, 1));
        check.refuses("both", x, STATE, () -> x.lift(0, 6, 0, 2));
        Works six = full(0, 63, false);
        for (int corner = 0; corner < 6; corner++) {
            int each = corner;
            check.refuses("one is new", six, STATE, () -> six.lift(0, 6, each, 1));
            check.refuses("the other is new", six, STATE, () -> six.lift(0, each, 6, 1));
        }
    }

    private static void liftWithOneTwice() {
        check.sentence("12: Throws IllegalArgumentException if there is no such corner, or they are the same");
        Works x = Check.worksWith(0, 1);
        for (int corner = -1; corner <= 7; corner++) {
            int each = corner;
            check.refuses("twice " + corner, x, BAD, () -> x.lift(0, each, each, 0));
            check.refuses("of none twice " + corner, x, BAD, () -> x.lift(5, each, each, 1));
        }
        check.refuses("its own and no corner", x, BAD, () -> x.lift(0, 0, 7, 1));
        check.refuses("no corner and its own", x, BAD, () -> x.lift(0, -1, 0, 1));
    }

    private static void otherOfEach() {
        check.sentence("13: those faces of these corners, without that of all, whose rest is not a face");
        for (int corners = 1; corners <= ALL; corners++) {
            Works x = new Works();
            int each = corners;
            check.same("of none over " + corners, parts(corners, true).size(), x.other(0, corners, 1));
            check.same("it is the rim", parts(corners, true), x.facesAt(1));
            check.answers("of the rim over " + corners, 0, () -> x.other(1, each, 1));
            check.same("it is none", List.of(), x.facesAt(1));
            x.full(corners, false, 2);
            check.answers("of the full over " + corners, 0, () -> x.other(2, each, 2));
            check.same("it is none again", List.of(), x.facesAt(2));
            int lone = corners & -corners;
            x.put(3, lone);
            List<Integer> due = parts(corners, true);
            due.remove(Integer.valueOf(corners - lone));
            check.same("of a lone corner over " + corners, due.size(), x.other(3, corners, 4));
            check.same("of a lone corner over " + corners, due, x.facesAt(4));
            x.full(corners, false, 5);
            List<Integer> far = parts(ALL, true);
            far.removeIf(face -> (ALL - face & ~each) == 0);
            check.same("of the full " + corners + " over all", far.size(), x.other(5, ALL, 5));
            check.same("of the full " + corners + " over all", far, x.facesAt(5));
        }
    }

    private static void otherOverOne() {
        check.sentence("13: over one corner, the face of all of them is the only one: there is no other shape");
        for (int corner = 0; corner < 7; corner++) {
            int face = 1 << corner;
            Works x = Check.worksWith(0, face);
            check.answers("of none", 0, () -> x.other(1, face, 2));
            has("of none", x, 2);
            check.answers("of the corner", 0, () -> x.other(0, face, 0));
            has("of the corner", x, 0);
        }
    }

    private static void otherWithOneNotAmong() {
        check.sentence("13: Throws IllegalStateException if a corner of the shape is not among them");
        for (int corner = 0; corner < 7; corner++) {
            int face = 1 << corner;
            Works x = Check.worksWith(0, face);
            check.refuses("a lone corner", x, STATE, () -> x.other(0, ALL - face, 1));
            Works all = full(0, ALL, corner % 2 == 0);
            check.refuses("all but one are among them", all, STATE, () -> all.other(0, ALL - face, 0));
            check.refuses("one is among them", all, STATE, () -> all.other(0, face, 0));
        }
        Works x = Check.worksWith(0, 3);
        check.refuses("no corners at all", x, BAD, () -> x.other(0, 0, 1));
        check.refuses("too many corners", x, BAD, () -> x.other(0, 128 + 3, 1));
    }

    private static void exchangeOfEach() {
        check.sentence("14: two corners exchanging their names");
        for (int one = 0; one < 7; one++) {
            for (int other = 0; other < 7; other++) {
                Works x = new Works();
                int a = one;
                int b = other;
                check.answers("of none", 0, () -> x.exchange(0, a, b, 5));
                has("of none", x, 5);
                x.full(ALL, false, 1);
                check.answers("of the full", 0, () -> x.exchange(1, a, b, 2));
                check.same("of the full", parts(ALL, false), x.facesAt(2));
                x.full(ALL, true, 1);
                check.answers("of the rim", 0, () -> x.exchange(1, a, b, 1));
                check.same("of the rim", parts(ALL, true), x.facesAt(1));
                x.put(3, 1 << one);
                check.answers("of the lone corner", one == other ? 0 : 1, () -> x.exchange(3, a, b, 4));
                has("the other one", x, 4, 1 << other);
                check.answers("of a lone corner, back", one == other ? 0 : 1, () -> x.exchange(4, a, b, 4));
                has("the one again", x, 4, 1 << one);
            }
        }
    }

    private static void exchangeOfOne() {
        check.sentence("14: it may be the same corner");
        for (int corner = 0; corner < 7; corner++) {
            int each = corner;
            Works x = Check.worksWith(0, 7, 24, 64);
            List<Integer> before = x.facesAt(0);
            check.answers("with itself", 0, () -> x.exchange(0, each, each, 1));
            check.same("as it was", before, x.facesAt(1));
            check.answers("with itself, to itself", 0, () -> x.exchange(0, each, each, 0));
            check.same("as it was, at its place", before, x.facesAt(0));
        }
    }

    private static void exchangeReturnsWhatPlaceHasNot() {
        check.sentence("14: Returns how many faces it has then that the shape at place, as it was, does not have");
        Works x = Check.worksWith(0, 3);
        x.full(ALL, false, 1);
        check.answers("to a place that has all", 2, () -> x.exchange(0, 0, 6, 1));
        has("to a place that had all", x, 1, 2, 64, 66);
        check.answers("to a place that has the same", 2, () -> x.exchange(0, 6, 0, 1));
        check.answers("to itself", 2, () -> x.exchange(0, 0, 6, 0));
        has("to itself", x, 0, 2, 64, 66);
        check.answers("to an empty place, none new", 0, () -> x.exchange(0, 1, 6, 5));
        has("to an empty place", x, 5, 2, 64, 66);
    }

    private static void foldInJustOne() {
        check.sentence("15: a face that lies in just one other, and this one; returns the number of the other one");
        for (int corner = 0; corner < 7; corner++) {
            Works x = full(0, ALL, false);
            int face = ALL - (1 << corner);
            check.answers("in the full", ALL, () -> x.fold(0, face));
            List<Integer> due = parts(ALL, true);
            due.remove(Integer.valueOf(face));
            check.same("in the full", due, x.facesAt(0));
            int edge = corner == 0 ? 3 : 1 + (1 << corner);
            Works y = Check.worksWith(5, edge);
            check.answers("in an edge", edge, () -> y.fold(5, 1));
            has("in an edge", y, 5, edge - 1);
        }
    }

    private static void foldInNone() {
        check.sentence("15: Throws IllegalStateException if it lies in none");
        Works x = new Works();
        x.full(ALL, false, 0);
        x.full(ALL, true, 1);
        check.refuses("the greatest of all", x, STATE, () -> x.fold(0, ALL));
        for (int corner = 0; corner < 7; corner++) {
            int face = ALL - (1 << corner);
            check.refuses("a greatest of the rim", x, STATE, () -> x.fold(1, face));
            Works lone = Check.worksWith(0, 1 << corner);
            check.refuses("a lone corner", lone, STATE, () -> lone.fold(0, ALL - face));
        }
        check.refuses("it is not there", x, ABSENT, () -> x.fold(1, ALL));
        check.refuses("of none", x, ABSENT, () -> x.fold(2, 1));
    }

    private static void foldInMore() {
        check.sentence("15: Throws IllegalStateException if it lies in more than one");
        Works x = new Works();
        x.full(ALL, false, 0);
        x.full(ALL, true, 1);
        for (int corner = 1; corner < 7; corner++) {
            int face = ALL - 1 - (1 << corner);
            check.refuses("in three of the full", x, STATE, () -> x.fold(0, face));
            check.refuses("in two of the rim", x, STATE, () -> x.fold(1, face));
        }
        Works path = Check.worksWith(0, 3, 6);
        check.refuses("in two edges", path, STATE, () -> path.fold(0, 2));
        check.answers("in one edge", 6, () -> path.fold(0, 4));
        check.answers("now in one edge", 3, () -> path.fold(0, 2));
        has("what is left", path, 0, 1);
        check.refuses("now in none", path, STATE, () -> path.fold(0, 1));
    }

    private static Works twoShapes() {
        Works x = Check.worksWith(0, 7, 40);
        Check.putAll(x, 1, 6, 8);
        return x;
    }

    private static int[] with(int[] values, int to) {
        int[] all = Arrays.copyOf(values, values.length + 1);
        all[values.length] = to;
        return all;
    }

    private static void replacesWhatItHas() {
        check.sentence("5 to 14: the place that gets it in place of what it has");
        for (int number = 0; number < MAKING.length; number++) {
            Calls.Call call = Calls.named(MAKING[number]);
            for (int to = 2; to < Works.PLACES; to++) {
                int[] values = with(MADE_OF[number], to);
                Works onNone = twoShapes();
                Works onFull = twoShapes();
                onFull.full(ALL, false, to);
                Object due = call.ofProgram(onNone, values);
                check.same(call.with(values) + " on the full", due, call.ofProgram(onFull, values));
                check.same(call.with(values) + " on the full keeps", onNone.kept(), onFull.kept());
            }
        }
    }

    private static void readsBeforeItWrites() {
        check.sentence("5 to 14: the place that gets it may be one of which it is made");
        for (int number = 0; number < MAKING.length; number++) {
            Calls.Call call = Calls.named(MAKING[number]);
            Works aside = twoShapes();
            Object due = call.ofProgram(aside, with(MADE_OF[number], 5));
            check.same(call.name() + " is not refused", true, due instanceof Integer);
            for (int to = 0; to < 2; to++) {
                int[] values = with(MADE_OF[number], to);
                Works x = twoShapes();
                check.same(call.with(values), due, call.ofProgram(x, values));
                check.same(call.with(values) + " makes", aside.facesAt(5), x.facesAt(to));
                check.same(call.with(values) + " leaves", twoShapes().facesAt(1 - to), x.facesAt(1 - to));
            }
        }
    }
}
