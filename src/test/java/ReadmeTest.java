import java.nio.ByteBuffer;
import java.nio.IntBuffer;
import java.nio.charset.StandardCharsets;
import java.nio.file.Files;
import java.nio.file.Path;
import java.util.Arrays;
import java.util.List;

/** README.md's example, line by line: RanOut answers what is written there, and nothing stands there unplayed. */
public final class ReadmeTest {
    private final RanOut x = new RanOut();
    private final List<String> lines;
    private int next;

    private ReadmeTest(List<String> lines) {
        this.lines = lines;
    }

    public static void main(String[] args) throws Exception {
        List<String> lines = Files.readAllLines(Path.of(args[0], "README.md"));
        ReadmeTest test = new ReadmeTest(lines.stream().filter(l -> l.matches("(x\\.|tell\\().*; *// .*")).toList());
        test.tellAndAsk();
        test.plan();
        test.goBack();
        Check.due("lines of README.md that are not played", test.lines.size() - test.next, 0);
        Check.leave("ReadmeTest");
    }

    private static int tell(RanOut x, int k, String law) {
        byte[] bytes = Arrays.copyOf(law.getBytes(StandardCharsets.ISO_8859_1), (law.length() + 19) / 20 * 20);
        IntBuffer n = ByteBuffer.wrap(bytes).asIntBuffer();
        while (n.hasRemaining()) {
            x.feed(n.get(), n.get(), n.get(), n.get(), n.get());
        }
        x.end(law.length());
        return x.text(k);
    }

    /** The next line of the example must be that call, with that answer ahead of its colon. */
    private void is(String call, Object got, Object want) {
        String line = next < lines.size() ? lines.get(next) : "";
        next++;
        Check.due(call + " answered " + got + ", as " + want, got.equals(want), true);
        Check.due(call + " with " + want + " in: " + line, line.startsWith(call + ";") && line.contains("// " + want + ": "), true);
    }

    private void tellAndAsk() {
        is("tell(x, 0, \"term 20 days from done; stop child; renew ask; renew pay; roll;\")",
            tell(x, 0, "term 20 days from done; stop child; renew ask; renew pay; roll;"), 5);
        is("tell(x, 1, \"term 5 weeks from done;\")", tell(x, 1, "term 5 weeks from done;"), -1);
        is("x.fault(0)", x.fault(0), 1);
        is("x.fault(1)", x.fault(1), 7);
        is("tell(x, 1, \"term 5 days from done;\")", tell(x, 1, "term 5 days from done;"), 1);
        is("x.claim(0, 0, 100, 0, 0, 0)", x.claim(0, 0, 100, 0, 0, 0), 0);
        is("x.claim(0, 0, 250, 3, 3, 3)", x.claim(0, 0, 250, 3, 3, 3), 1);
        is("x.last(0)", x.last(0), 21);
        is("x.last(1)", x.last(1), 23);
        is("x.fact(1, 0, 10, 12)", x.fact(1, 0, 10, 12), 0);
        is("x.last(1)", x.last(1), 28);
        is("x.step(1, 11, 3)", x.step(1, 11, 3), 2);
        is("x.doubt(1, 0, 6)", x.doubt(1, 0, 6), true);
        is("x.span(1, 0)", x.span(1, 0), 23);
        is("x.span(1, 1)", x.span(1, 1), 28);
        is("x.span(1, 2)", x.span(1, 2), 1);
    }

    private void plan() {
        is("x.today(15)", x.today(15), true);
        is("x.act(0, 4, 18, 5, 0, 1, -1)", x.act(0, 4, 18, 5, 0, 1, -1), true);
        is("x.act(1, 7, 20, 40, 1, -1, -1)", x.act(1, 7, 20, 40, 1, -1, -1), true);
        is("x.want(1, true)", x.want(1, true), true);
        is("x.cheapest(30, 0)", x.cheapest(30, 0), 1);
        is("x.cheapest(30, 1)", x.cheapest(30, 1), 5);
        is("x.cheapest(60, 0)", x.cheapest(60, 0), 2);
        is("x.worth(30, 40, 1)", x.worth(30, 40, 1), 350);
        is("x.one(30, 0)", x.one(30, 0), 0);
        is("x.one(30, 1)", x.one(30, 1), 2);
        is("x.pay(0)", x.pay(0), 14);
        is("x.contest(27, 1, 0)", x.contest(27, 1, 0), 5);
        is("x.contest(27, 1, 10)", x.contest(27, 1, 10), 12);
        is("x.beside(1, 0, 0)", x.beside(1, 0, 0), 2);
    }

    private void goBack() {
        is("x.image(true)", x.image(true), true);
        is("x.change(0, 18, 1, true)", x.change(0, 18, 1, true), true);
        is("x.last(0)", x.last(0), 18);
        is("x.changed(0, 0)", x.changed(0, 0), 2);
        is("x.image(false)", x.image(false), true);
        is("x.last(0)", x.last(0), 21);
        is("x.look(20)", x.look(20), 0);
    }
}
