import java.io.IOException;
import java.nio.file.Files;
import java.nio.file.Path;

/** The example of README.md: what it says that each call answers, and that README.md still says it so. */
public final class ReadmeTest {
    private static String readme = "";
    private static int said = 0;

    private ReadmeTest() {
    }

    public static void main(String[] args) throws IOException {
        readme = Files.readString(Path.of("README.md"));
        HeardWords x = new HeardWords();
        answers("x.known(0, 4)", x.known(0, 4), 0);
        answers("int said = x.word(1, 1, 2)", x.word(1, 1, 2), 0);
        answers("int letter = x.word(2, 0, 4)", x.word(2, 0, 4), 1);
        answers("x.hold(letter, said)", x.hold(1, 0), 1);
        String text = "out u=1;in c=2";
        standsIn("\"" + text + "\".toCharArray()");
        Due.feed(x, text);
        answers("x.rule(0)", x.rule(0), 0);
        answers("x.heard(letter, 0, 0)", x.heard(1, 0, 0), 0);
        answers("x.why(letter, 0, 0)", x.why(1, 0, 0), 0);
        answers("x.cut(letter, 0, 0, 0)", x.cut(1, 0, 0, 0), 1);
        answers("x.cut(letter, 0, 0, 1)", x.cut(1, 0, 0, 1), 4);
        answers("x.heard(letter, 0, 1)", x.heard(1, 0, 1), 1);
        Due.finish();
    }

    /** A call answers what is due, and README.md has it, with that answer, behind what it had before. */
    private static void answers(String call, int got, int want) {
        Due.due(call, got, want);
        standsIn(call + ";");
        int end = readme.indexOf('\n', said);
        String comment = end < 0 ? "" : readme.substring(said, end).trim();
        Due.due(call + " with its answer in README.md", comment.startsWith("// " + want + ": ") ? 1 : 0, 1);
    }

    private static void standsIn(String piece) {
        int at = readme.indexOf(piece, said);
        Due.due(piece + " in README.md", at < 0 ? 0 : 1, 1);
        said = at < 0 ? said : at + piece.length();
    }
}
