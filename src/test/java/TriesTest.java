import java.io.ByteArrayOutputStream;
import java.io.IOException;
import java.io.OutputStream;
import java.net.URI;
import java.nio.file.Files;
import java.nio.file.Path;
import java.util.HashMap;
import java.util.List;
import java.util.Map;
import java.util.regex.Pattern;
import javax.tools.FileObject;
import javax.tools.ForwardingJavaFileManager;
import javax.tools.JavaCompiler;
import javax.tools.JavaFileManager;
import javax.tools.JavaFileObject;
import javax.tools.SimpleJavaFileObject;
import javax.tools.StandardJavaFileManager;
import javax.tools.ToolProvider;

/**
 * Promises 39 to 42: that the theorem is tried. As it holds, the class itself never denies it; so each test here
 * compiles the class with one fault planted, for which one sentence of the theorem is wrong of one shape, and wants
 * this to be told. It is run in the project's folder.
 */
public final class TriesTest {
    private static final Path FILE = Path.of("src/main/java/Holeworks.java");

    /** Lines of the class in which faults are planted: if one is written anew, its faults are to be as well. */
    private static final String BORDER = "if (part != face && part != NO_FACE) {";
    private static final String FILLS = "return isSumOfKept(bits);";
    private static final String FILLS_WITHOUT = "if (row.isEmpty()) {\n                return true;";
    private static final String PIECE = "left &= ~pieceFrom(shape, leastCorner(left));";
    private static final String PIECES = "int left = shape.cornerSet();\n            int many = 0;";
    private static final String HOLES_HERE = "int lost = height == 0 ? LOST_CORNERS : countFree(shape, height);";
    private static final String HOLES =
            "many[height] = shape.isEmpty() ? 0 : shape.countAt(height) - lost - freeAbove;";
    private static final String SIGN = "sum += heightOf(face) % 2 == 0 ? 1 : -1;";
    private static final String CONE = "addJoined(shape, tip, made);\n        }";
    private static final String LIFT = "addJoined(shape, secondTip, made);";
    private static final String OTHER = "if ((face & corners) == face && !shape.holds(corners ^ face)) {";
    private static final String EXCHANGED = "made.add(exchanged(face, one, second));";
    private static final String ABOUT = "if (isWanted && shape.holds(face) && shape.holds(face | center)) {";
    private static final String UNION = "upper = one.upper | second.upper;";

    private static final Check check = new Check("TriesTest");

    private final JavaCompiler compiler = ToolProvider.getSystemJavaCompiler();
    private final String text;

    private TriesTest(String text) {
        this.text = text;
    }

    public static void main(String[] args) throws IOException, ReflectiveOperationException {
        TriesTest test = new TriesTest(Files.readString(FILE));
        test.rows();
        test.piecesAndSigns();
        test.conesAndLifts();
        test.others();
        test.exchanges();
        test.facesOfShapes();
        test.pairs();
        check.end();
    }

    private void rows() throws IOException, ReflectiveOperationException {
        check.sentence("39: (1) The border of the border of a row is nothing");
        String isNoBorder = "if (part != face && part != NO_FACE && face != 63) {";
        denied(BORDER, isNoBorder, "flip(127)", "isSound(0)");
        check.sentence("39: (1) A row that fills is round");
        denied(FILLS, "return true;", "put(0, 3)", "flip(3)", "isSound(0)");
        check.sentence("39: (1) a row of a height of which the shape has no hole fills, if it is round");
        denied(FILLS, "return false;", "put(0, 7)", "flip(3)", "flip(5)", "flip(6)", "isSound(0)");
        denied(FILLS_WITHOUT, FILLS_WITHOUT.replace("true", "false"), "put(0, 7)", "isSound(0)");
        check.sentence("39: (1) a row of its corners fills just if each piece has an even number of them");
        denied(FILLS, "return false;", "put(5, 3)", "flip(1)", "flip(2)", "isSound(5)");
        denied(FILLS, "return true;", "put(5, 1)", "put(5, 2)", "flip(1)", "flip(2)", "isSound(5)");
    }

    private void piecesAndSigns() throws IOException, ReflectiveOperationException {
        check.sentence("39: (2) as many pieces, told by walking, as corners less free borders of the height 1");
        denied(PIECE, "left &= ~leastCorner(left);", "put(0, 3)", "isSound(0)");
        String noneLost = HOLES_HERE.replace("LOST_CORNERS", "0");
        TriesTest asManyHoles = new TriesTest(text.replace(HOLES_HERE, noneLost));
        asManyHoles.denied(PIECES, PIECES.replace("= 0;", "= 1;"), "put(0, 1)", "isSound(0)");
        check.sentence("39: (2) one more than it has holes of the height 0");
        denied(HOLES_HERE, noneLost, "put(0, 1)", "isSound(0)");
        check.sentence("39: (3) the number of its faces is one more than the number of its holes, with signs");
        denied(SIGN, "sum += 1;", "put(0, 3)", "isSound(0)");
        denied(HOLES, holesMore("shape.count() == 3", 5), "put(0, 3)", "isSound(0)");
    }

    private void conesAndLifts() throws IOException, ReflectiveOperationException {
        check.sentence("40: (4) there is one piece, with the least corner that it does not have");
        denied(CONE, "made.add(tip);\n        }", "put(0, 1)", "isTrue(0, 0, 0)");
        denied(PIECES, PIECES.replace("= 0;", "= shape.count() == 3 ? 1 : 0;"), "put(0, 1)", "isTrue(0, 0, 0)");
        check.sentence("40: (4) there are no holes, with the least corner that it does not have");
        denied(CONE, "addJoined(shape, tip, made);\n            made.remove(7);\n        }", "put(0, 3)",
                "isTrue(0, 0, 0)");
        denied(CONE, "made.add(tip);\n        }", "put(0, 63)", "isTrue(0, 0, 0)");
        check.sentence("40: (5) each hole is lifted by one height");
        denied(LIFT, "", "put(0, 1)", "put(0, 2)", "isTrue(0, 0, 0)");
        check.sentence("40: (5) there is none of the height 0");
        denied(LIFT, "made.add(secondTip);", "put(0, 1)", "isTrue(0, 0, 0)");
        denied(LIFT, "made.add(secondTip);", "put(0, 31)", "isTrue(0, 0, 0)");
    }

    private void others() throws IOException, ReflectiveOperationException {
        String notAmongSeven = OTHER.replace(") {", " && (corners != 127 || face != 1)) {");
        String notAmongThree = OTHER.replace(") {", " && (corners != 7 || face != 1)) {");
        check.sentence("40: (9) the other shape of the other shape over all seven corners is the shape itself");
        denied(OTHER, notAmongSeven, "put(0, 2)", "isTrue(0, 0, 0)");
        check.sentence("40: (9) the other shape of the other shape over its own corners is the shape itself");
        denied(OTHER, notAmongThree, "put(0, 3)", "put(0, 4)", "isTrue(0, 0, 0)");
        check.sentence("40: (9) also of one without faces");
        denied(OTHER, notAmongSeven, "isTrue(0, 0, 0)");
        check.sentence("40: (9) also of the rim");
        denied(OTHER, notAmongSeven, "full(127, true, 0)", "isTrue(0, 0, 0)");
        denied(OTHER, notAmongThree, "full(7, true, 0)", "isTrue(0, 0, 0)");
        check.sentence("40: (9) m from 2 on");
        denied(OTHER, notAmongThree.replace("7", "3"), "full(3, true, 0)", "isTrue(0, 0, 0)");
        check.sentence("40: (9) as many holes of the height m - 3 - k as the shape has of the height k");
        denied(HOLES, holesMore("shape.count() == 122", 2), "put(0, 3)", "put(0, 4)", "isTrue(0, 0, 0)");
        denied(HOLES, holesMore("shape.count() == 2", 0), "put(0, 3)", "put(0, 4)", "isTrue(0, 0, 0)");
        check.sentence("40: (9) neither has any above this");
        denied(HOLES, holesMore("shape.count() == 122", 5), "put(0, 3)", "put(0, 4)", "isTrue(0, 0, 0)");
        denied(HOLES, holesMore("shape.count() == 122", 6), "put(0, 3)", "put(0, 4)", "isTrue(0, 0, 0)");
        denied(HOLES, holesMore("shape.count() == 2", 1), "put(0, 3)", "put(0, 4)", "isTrue(0, 0, 0)");
    }

    private void exchanges() throws IOException, ReflectiveOperationException {
        String isTurned = "shape.holds(6) && !shape.holds(1)";
        check.sentence("40: (10) there are as many faces of each height");
        denied(EXCHANGED, "made.add(exchanged(face, one, second) == 6 ? 2 : exchanged(face, one, second));",
                "put(0, 3)", "isTrue(0, 0, 2)");
        denied(EXCHANGED, "made.add(face > 1 ? 4 : exchanged(face, one, second));", "put(0, 3)", "isTrue(0, 0, 2)");
        check.sentence("40: (10) there are as many holes of each height");
        denied(HOLES, holesMore(isTurned, 3), "put(0, 3)", "isTrue(0, 0, 2)");
        denied(HOLES, holesMore(isTurned, 0), "put(0, 3)", "isTrue(0, 2, 0)");
        denied(HOLES, holesMore(isTurned, 6), "put(0, 3)", "isTrue(0, 2, 0)");
        check.sentence("40: (10) there are as many pieces");
        denied(PIECES, PIECES.replace("= 0;", "= " + isTurned + " ? 1 : 0;"), "put(0, 3)", "isTrue(0, 0, 2)");
    }

    private void facesOfShapes() throws IOException, ReflectiveOperationException {
        check.sentence("41: (4) the faces about it have one piece");
        denied(ABOUT, "if (isWanted && shape.holds(face)) {", "put(0, 1)", "put(0, 2)", "faceIsTrue(0, 1)");
        denied(PIECES, PIECES.replace("= 0;", "= shape.count() == 3 ? 1 : 0;"), "put(0, 3)", "faceIsTrue(0, 3)");
        check.sentence("41: (4) the faces about it have no holes");
        denied(ABOUT, ABOUT.replace(") {", " && face != 7) {"), "put(0, 7)", "faceIsTrue(0, 7)");
        denied(HOLES, holesMore("shape.count() == 7", 6), "put(0, 7)", "put(0, 96)", "faceIsTrue(0, 1)");
        check.sentence("41: (7) if it lies in just one other face, the two taken away change no hole");
        denied(HOLES, holesMore("shape.count() == 5", 3), "put(0, 7)", "faceIsTrue(0, 3)");
        denied(HOLES, holesMore("shape.count() == 5", 0), "put(0, 7)", "faceIsTrue(0, 5)");
        check.sentence("41: (7) in none: one hole of the height k less, or one of the height k - 1 more");
        denied(HOLES, holesMore("shape.count() == 2", 0), "put(0, 3)", "faceIsTrue(0, 3)");
        denied(HOLES, holesMore("shape.count() == 2", 0), "put(0, 1)", "put(0, 2)", "faceIsTrue(0, 2)");
        check.sentence("41: (7) in none: all others stay");
        denied(HOLES, holesMore("shape.count() == 2", 3), "put(0, 1)", "put(0, 2)", "faceIsTrue(0, 1)");
        denied(HOLES, holesMore("shape.count() == 2", 6), "put(0, 3)", "faceIsTrue(0, 3)");
    }

    private void pairs() throws IOException, ReflectiveOperationException {
        check.sentence("42: (8) what they have together and what at least one has has as many faces as both");
        denied(UNION, "upper = one.upper;", "put(0, 1)", "put(1, 64)", "pairIsTrue(0, 1)");
        denied(UNION, "upper = one.upper;", "put(0, 1)", "put(1, 127)", "pairIsTrue(0, 1)");
        check.sentence("42: (6) the holes of both laid together are the sums of theirs");
        for (int height = 0; height < 7; height++) {
            denied(HOLES, holesMore("shape.count() == 5", height), "put(0, 3)", "put(1, 6)", "pairIsTrue(0, 1)");
        }
    }

    /** One hole more of a height, for some shapes. */
    private static String holesMore(String when, int height) {
        return HOLES + "\n                many[height] += " + when + " && height == " + height + " ? 1 : 0;";
    }

    /** The last of the calls answers true, and with this fault in the class false. */
    private void denied(String line, String fault, String... calls) throws IOException, ReflectiveOperationException {
        String what = String.join(", ", calls) + " with " + fault.strip();
        check.same("how often it stands: " + line, 1, text.split(Pattern.quote(line), -1).length - 1);
        check.same("without a fault: " + what, "true", lastAnswer(new Holeworks(), calls));
        check.same(what, "false", lastAnswer(faulty(text.replace(line, fault)), calls));
    }

    private static String lastAnswer(Object works, String... calls) throws ReflectiveOperationException {
        String answer = "";
        for (String call : calls) {
            answer = Written.answerOf(works, call);
        }
        return answer;
    }

    private Object faulty(String source) throws IOException, ReflectiveOperationException {
        Map<String, ByteArrayOutputStream> made = new HashMap<>();
        try (StandardJavaFileManager files = compiler.getStandardFileManager(null, null, null);
                JavaFileManager kept = new Kept(files, made)) {
            List<String> options = List.of("--release", "17", "-proc:none", "-nowarn");
            boolean isMade = compiler.getTask(null, kept, null, options, null, List.of(new Source(source))).call();
            check.same("the class with the fault compiles", true, isMade);
        }
        return new Loader(made).loadClass("Holeworks").getConstructor().newInstance();
    }

    /** The text of the class, as a file that is none. */
    private static final class Source extends SimpleJavaFileObject {
        private final String source;

        Source(String source) {
            super(URI.create("string:///Holeworks.java"), Kind.SOURCE);
            this.source = source;
        }

        @Override
        public CharSequence getCharContent(boolean ignoreEncodingErrors) {
            return source;
        }
    }

    /** Keeps what the compiler makes, so that nothing is written beside the class itself. */
    private static final class Kept extends ForwardingJavaFileManager<JavaFileManager> {
        private final Map<String, ByteArrayOutputStream> made;

        Kept(JavaFileManager files, Map<String, ByteArrayOutputStream> made) {
            super(files);
            this.made = made;
        }

        @Override
        public JavaFileObject getJavaFileForOutput(Location location, String name, JavaFileObject.Kind kind,
                                                   FileObject sibling) {
            return new SimpleJavaFileObject(URI.create("string:///" + name), kind) {
                @Override
                public OutputStream openOutputStream() {
                    ByteArrayOutputStream bytes = new ByteArrayOutputStream();
                    made.put(name, bytes);
                    return bytes;
                }
            };
        }
    }

    /** Loads what was just made, and never the class of the project itself. */
    private static final class Loader extends ClassLoader {
        private final Map<String, ByteArrayOutputStream> made;

        Loader(Map<String, ByteArrayOutputStream> made) {
            super(ClassLoader.getPlatformClassLoader());
            this.made = made;
        }

        @Override
        protected Class<?> findClass(String name) throws ClassNotFoundException {
            if (!made.containsKey(name)) {
                throw new ClassNotFoundException(name);
            }
            byte[] bytes = made.get(name).toByteArray();
            return defineClass(name, bytes, 0, bytes.length);
        }
    }
}
