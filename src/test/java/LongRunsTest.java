/** An object is used for at most 512 calls: each of them is answered, the last one as the first one. */
public final class LongRunsTest {
    private static final int CALLS = Works.MOST_CALLS;

    private static final Check check = new Check("LongRunsTest");

    public static void main(String[] args) {
        for (Calls.Call call : Calls.ALL) {
            oneCallAgainAndAgain(call, Scene.MIDDLE[0]);
            oneCallAgainAndAgain(call, Scene.EDGES[2]);
            refusedAgainAndAgain(call, Scene.MIDDLE[1]);
        }
        allCallsInTurn();
        fullAndEmptyInTurn();
        rowInTurn();
        twoObjectsInTurn();
        check.end();
    }

    /** How many calls a scene takes on a new object. */
    private static int callsFor(Scene scene) {
        int calls = scene.row().length;
        for (int[] shape : scene.shapes()) {
            calls += shape.length;
        }
        return calls;
    }

    private static void oneCallAgainAndAgain(Calls.Call call, Scene scene) {
        check.sentence("An object is used for at most 512 calls: " + call.name());
        Works works = scene.newWorks();
        Model model = scene.newModel();
        for (int number = callsFor(scene); number < CALLS - 1; number++) {
            int[] values = valuesFor(call, number);
            check.same(call.with(values) + " as call " + number, call.ofModel(model, values),
                    call.ofProgram(works, values));
        }
        check.same("all that is kept at the end", model.checksum(), works.checksum());
    }

    /** Values in their ranges, other ones for each number. */
    private static int[] valuesFor(Calls.Call call, int number) {
        int[] values = new int[call.kinds().size()];
        int rest = number * 37;
        for (int index = 0; index < values.length; index++) {
            Calls.Kind kind = call.kinds().get(index);
            int many = kind.most - kind.least + 1;
            values[index] = kind.least + (rest + index * 5) % many;
            rest = rest / many + number * 11;
        }
        return values;
    }

    private static void refusedAgainAndAgain(Calls.Call call, Scene scene) {
        check.sentence("A method that throws an exception changes nothing, however often: " + call.name());
        if (call.kinds().isEmpty()) {
            return;
        }
        Works works = scene.newWorks();
        long before = scene.newWorks().checksum();
        int[] values = valuesFor(call, 0);
        values[0] = -1;
        Object due = call.ofModel(scene.newModel(), values);
        for (int number = callsFor(scene); number < CALLS - 1; number++) {
            check.same(call.with(values) + " as call " + number, due, call.ofProgram(works, values));
        }
        check.same("all that is kept at the end", before, works.checksum());
    }

    private static void allCallsInTurn() {
        check.sentence("An object is used for at most 512 calls: all of them in turn");
        for (int start = 0; start < Calls.ALL.size(); start++) {
            Works works = new Works();
            Model model = new Model();
            for (int number = 0; number < CALLS; number++) {
                Calls.Call call = Calls.ALL.get((start + number * 5) % Calls.ALL.size());
                int[] values = valuesFor(call, number + start);
                check.same(call.with(values) + " as call " + number, call.ofModel(model, values),
                        call.ofProgram(works, values));
            }
        }
    }

    private static void fullAndEmptyInTurn() {
        check.sentence("An object is used for at most 512 calls: filled and emptied in turn");
        Works works = new Works();
        for (int round = 0; round < CALLS / 4; round++) {
            int place = round % Works.PLACES;
            check.same("put in round " + round, 127, works.put(place, 127));
            check.same("take in round " + round, 64, works.take(place, 64));
            check.same("put again in round " + round, 64, works.put(place, 127));
            check.same("clear in round " + round, 127, works.clear(place));
        }
    }

    private static void rowInTurn() {
        check.sentence("An object is used for at most 512 calls: the row in turn");
        Works works = new Works();
        for (int round = 0; round < CALLS / 4; round++) {
            int face = round % 127 + 1;
            int corners = Integer.bitCount(face);
            check.same("flip in round " + round, 1, works.flip(face));
            check.same("border in round " + round, corners == 1 ? 0 : corners, works.border());
            check.same("round in round " + round, true, works.isRound());
            check.same("drop in round " + round, corners == 1 ? 0 : corners, works.drop());
        }
    }

    private static void twoObjectsInTurn() {
        check.sentence("What one object keeps is not what another one keeps");
        Works one = new Works();
        Works other = new Works();
        Model first = new Model();
        Model second = new Model();
        for (int number = 0; number < CALLS; number++) {
            Calls.Call call = Calls.ALL.get(number * 7 % Calls.ALL.size());
            int[] values = valuesFor(call, number);
            check.same(call.with(values) + " of the one", call.ofModel(first, values), call.ofProgram(one, values));
            Calls.Call next = Calls.ALL.get(number * 3 % Calls.ALL.size());
            int[] others = valuesFor(next, number + 9);
            Object due = next.ofModel(second, others);
            check.same(next.with(others) + " of the other", due, next.ofProgram(other, others));
        }
    }
}
