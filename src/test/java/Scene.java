/** What an object is brought to before a call is tried: greatest faces for each place from 0 on, and a row. */
record Scene(String name, int[][] shapes, int[] row) {
    private static final int[] NONE = {};
    private static final int[] ALL = {127};
    private static final int[] RIM = {63, 95, 111, 119, 123, 125, 126};
    private static final int[] RING_SKIN = {11, 22, 44, 88, 49, 98, 69, 13, 26, 52, 104, 81, 35, 70};
    private static final int[] TURNED_PLANE = {7, 11, 21, 41, 49, 38, 26, 50, 28, 44};

    /** The shapes that the document's edges name: without faces, one corner alone, full over all, and their rim. */
    static final Scene[] EDGES = {
        new Scene("nothing", new int[][] {NONE, NONE, NONE, NONE, NONE, NONE}, NONE),
        new Scene("lone corners", new int[][] {{1}, {64}, {8}, {1}, {2}, {64}}, new int[] {64}),
        new Scene("the first full", new int[][] {ALL, NONE, {1}, RIM, {63}, {64}}, ALL),
        new Scene("the last full", new int[][] {{64}, RIM, {126}, NONE, {1}, ALL}, new int[] {1, 64}),
        new Scene("the first a rim", new int[][] {RIM, ALL, {64}, {1}, NONE, {3}}, RIM),
        new Scene("the last a rim", new int[][] {NONE, {1}, ALL, {96}, {3, 5, 6}, RIM}, new int[] {127}),
        new Scene("all full", new int[][] {ALL, ALL, ALL, ALL, ALL, ALL}, new int[] {1, 2, 4, 8, 16, 32, 64}),
    };

    /** Shapes between the edges. */
    static final Scene[] MIDDLE = {
        new Scene("surfaces", new int[][] {RING_SKIN, TURNED_PLANE, {7, 14, 24, 64}, {3, 6, 5}, {15, 112}, {62, 64}},
                RING_SKIN),
        new Scene("few corners", new int[][] {{3, 4}, {1, 2}, {7}, {7, 11, 13, 14}, {3, 12}, {63}},
                new int[] {3, 5, 6}),
    };

    Works newWorks() {
        Works works = new Works();
        for (int place = 0; place < shapes.length; place++) {
            Check.putAll(works, place, shapes[place]);
        }
        for (int face : row) {
            works.flip(face);
        }
        return works;
    }

    Model newModel() {
        Model model = new Model();
        for (int place = 0; place < shapes.length; place++) {
            for (int face : shapes[place]) {
                model.put(place, face);
            }
        }
        for (int face : row) {
            model.flip(face);
        }
        return model;
    }
}
