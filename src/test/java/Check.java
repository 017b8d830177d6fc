import java.util.ArrayList;
import java.util.List;

/** Counts and prints the calls of a test whose answer is not the one that is due. */
final class Check {
    interface Call {
        Object run();
    }

    private final String name;
    private int calls = 0;
    private int wrong = 0;

    Check(String name) {
        this.name = name;
    }

    void answers(String what, Object due, Call call) {
        same(what, due, answerOf(call));
    }

    /** The call must throw just this exception, and change nothing. */
    void refuses(String what, Holeworks works, Class<? extends RuntimeException> due, Call call) {
        long before = works.checksum();
        same(what, due.getSimpleName(), answerOf(call));
        same(what + " changes nothing", before, works.checksum());
    }

    void same(String what, Object due, Object got) {
        calls++;
        if (!due.equals(got)) {
            wrong++;
            System.out.println(name + ": " + what + " answered " + got + ", due is " + due);
        }
    }

    /** Prints how it went, and ends the program with 1 if an answer was wrong. */
    void end() {
        System.out.println(name + ": " + calls + " answers, " + wrong + " wrong");
        if (wrong != 0) {
            System.exit(1);
        }
    }

    /** What a call answers; the simple name of the exception, if it throws one. */
    static Object answerOf(Call call) {
        try {
            return call.run();
        } catch (RuntimeException e) {
            return e.getClass().getSimpleName();
        }
    }

    static Holeworks worksWith(int place, int... faces) {
        Holeworks works = new Holeworks();
        putAll(works, place, faces);
        return works;
    }

    static void putAll(Holeworks works, int place, int... faces) {
        for (int face : faces) {
            works.put(place, face);
        }
    }

    static List<Integer> facesOf(Holeworks works, int place) {
        List<Integer> faces = new ArrayList<>();
        for (int face = 1; face <= 127; face++) {
            if (works.has(place, face)) {
                faces.add(face);
            }
        }
        return faces;
    }

    static List<Integer> rowOf(Holeworks works) {
        List<Integer> faces = new ArrayList<>();
        for (int index = 0; index < 128; index++) {
            try {
                faces.add(works.rowAt(index));
            } catch (IndexOutOfBoundsException e) {
                return faces;
            }
        }
        return faces;
    }
}
