import java.util.List;

/** Counts and prints the calls of a test whose answer is not the one that is due. */
final class Check {
    interface Call {
        Object run();
    }

    private final String name;
    private String sentence = "";
    private int calls = 0;
    private int wrong = 0;

    Check(String name) {
        this.name = name;
    }

    /** The sentence of the document that is tried from here on: it is printed with what is wrong. */
    void sentence(String told) {
        sentence = " (" + told + ")";
    }

    void answers(String what, Object due, Call call) {
        same(what, due, answerOf(call));
    }

    /** The call must throw just this exception, and change nothing. */
    void refuses(String what, Works works, Class<? extends RuntimeException> due, Call call) {
        List<List<Integer>> before = works.kept();
        same(what, due.getSimpleName(), answerOf(call));
        same(what + " changes nothing", before, works.kept());
    }

    /** The call must answer this, and change nothing. */
    void tells(String what, Works works, Object due, Call call) {
        List<List<Integer>> before = works.kept();
        same(what, due, answerOf(call));
        same(what + " changes nothing", before, works.kept());
    }

    void same(String what, Object due, Object got) {
        calls++;
        if (!due.equals(got)) {
            wrong++;
            System.out.println(name + sentence + ": " + what + " answered " + got + ", due is " + due);
        }
    }

    /** Prints how it went, and ends the program with 1 if an answer was wrong. */
    void end() {
        System.out.println(name + ": " + calls + " answers, " + wrong + " wrong");
        if (wrong != 0) {
            System.exit(1);
        }
    }

    /** What a call answers; the simple name of the exception, if it throws one. */
    static Object answerOf(Call call) {
        try {
            return call.run();
        } catch (RuntimeException e) {
            return e.getClass().getSimpleName();
        }
    }

    static Works worksWith(int place, int... faces) {
        Works works = new Works();
        putAll(works, place, faces);
        return works;
    }

    static void putAll(Works works, int place, int... faces) {
        for (int face : faces) {
            works.put(place, face);
        }
    }

    static void setRow(Works works, int... faces) {
        works.drop();
        for (int face : faces) {
            works.flip(face);
        }
    }
}
