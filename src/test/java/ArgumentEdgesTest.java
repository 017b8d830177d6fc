import java.util.List;

/**
 * Each argument of each call just below, at both ends of, and just above its range, and at the least and the greatest
 * int, alone and together with those of all others: which exception comes, which one comes first, what is answered
 * where none comes, and what is kept afterwards.
 */
public final class ArgumentEdgesTest {
    private static final String NO_PLACE = "IndexOutOfBoundsException";
    private static final String BAD = "IllegalArgumentException";

    private static final Check check = new Check("ArgumentEdgesTest");

    public static void main(String[] args) {
        check.same("how many calls", 41, Calls.ALL.size());
        for (Calls.Call call : Calls.ALL) {
            for (Scene scene : Scene.EDGES) {
                eachArgumentAlone(call, scene);
                allArgumentsTogether(call, scene);
            }
            for (Scene scene : Scene.MIDDLE) {
                allArgumentsTogether(call, scene);
            }
        }
        check.end();
    }

    /** One argument beyond its range, all others at an end of theirs. */
    private static void eachArgumentAlone(Calls.Call call, Scene scene) {
        for (int index = 0; index < call.kinds().size(); index++) {
            Calls.Kind kind = call.kinds().get(index);
            if (kind.hasRange()) {
                String range = kind.least + " to " + kind.most;
                check.sentence(call.name() + ": its argument " + (index + 1) + " is of " + range);
                for (int value : kind.beyond()) {
                    String due = kind == Calls.Kind.PLACE ? NO_PLACE : BAD;
                    refuses(call, scene, endsBut(call, index, value, true), due);
                    refuses(call, scene, endsBut(call, index, value, false), due);
                }
            }
        }
    }

    private static int[] endsBut(Calls.Call call, int index, int value, boolean isLeast) {
        int[] values = new int[call.kinds().size()];
        for (int each = 0; each < values.length; each++) {
            Calls.Kind kind = call.kinds().get(each);
            values[each] = isLeast ? kind.least : kind.most;
        }
        values[index] = value;
        return values;
    }

    private static void refuses(Calls.Call call, Scene scene, int[] values, String due) {
        Works works = scene.newWorks();
        List<List<Integer>> before = works.kept();
        String what = scene.name() + ", " + call.with(values);
        check.same(what, due, call.ofProgram(works, values));
        check.same(what + " changes nothing", before, works.kept());
    }

    private static void allArgumentsTogether(Calls.Call call, Scene scene) {
        check.sentence(call.name() + ": if several exceptions apply, the first one that is documented");
        int[] values = new int[call.kinds().size()];
        allFrom(call, scene, values, 0);
    }

    private static void allFrom(Calls.Call call, Scene scene, int[] values, int index) {
        if (index == values.length) {
            oneCall(call, scene, values);
            return;
        }
        for (int value : call.kinds().get(index).edges()) {
            values[index] = value;
            allFrom(call, scene, values, index + 1);
        }
    }

    private static void oneCall(Calls.Call call, Scene scene, int[] values) {
        Works works = scene.newWorks();
        Model model = scene.newModel();
        String what = scene.name() + ", " + call.with(values);
        String refusal = refusalByRange(call, values);
        Object due = refusal.isEmpty() ? call.ofModel(model, values) : refusal;
        check.same(what, due, call.ofProgram(works, values));
        check.same(what + " then keeps", model.kept(), works.kept());
    }

    /** What is documented of places comes first, then what is documented of all other numbers. */
    private static String refusalByRange(Calls.Call call, int[] values) {
        String refusal = "";
        for (int index = 0; index < values.length; index++) {
            Calls.Kind kind = call.kinds().get(index);
            if (!kind.isInRange(values[index])) {
                if (kind == Calls.Kind.PLACE) {
                    return NO_PLACE;
                }
                refusal = BAD;
            }
        }
        return refusal;
    }
}
