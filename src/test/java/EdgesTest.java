import java.io.IOException;
import java.nio.charset.StandardCharsets;
import java.nio.file.Files;
import java.nio.file.Path;
import java.util.ArrayList;
import java.util.List;
import java.util.Set;
import java.util.TreeSet;
import java.util.stream.Collectors;
import java.util.stream.Stream;

/** The document's boundary cases, sentence by sentence: every run under src/test/edges, on the class and on the plain model. */
public final class EdgesTest {
    private static final Path EDGES = Path.of("src/test/edges");
    private static final Path DOCUMENT = Path.of("../shared/DOC.md");
    private static final int PROMISES = 46;
    private static final int MOST_CALLS = 512;
    private static final Set<Integer> REFUSALS = Set.of(Checks.BAD, Checks.NO, Checks.FULL, Checks.NOTHING, Checks.INDEX, Checks.SIZE);

    private static final Checks c = new Checks();

    public static void main(String[] args) throws IOException, ReflectiveOperationException {
        List<Edge> edges = new ArrayList<>();
        try (Stream<Path> files = Files.list(EDGES)) {
            for (Path file : files.filter(f -> f.toString().endsWith(".txt")).sorted().collect(Collectors.toList())) {
                edges.addAll(Edge.readAll(file));
            }
        }
        sentences(edges);
        for (Edge edge : edges) {
            run(edge);
            refusals(edge);
        }
        c.end();
    }

    private static String even(String text) {
        return text.replaceAll("[\\s`]+", " ");
    }

    private static void sentences(List<Edge> edges) throws IOException {
        String document = even(Files.readString(DOCUMENT, StandardCharsets.UTF_8));
        Set<Integer> missing = new TreeSet<>();
        for (int i = 1; i <= PROMISES; i++) {
            missing.add(i);
        }
        for (Edge edge : edges) {
            c.holds(edge.at() + ": the document does not say: " + edge.sentence(), document.contains(even(edge.sentence())));
            missing.removeAll(edge.promises());
        }
        c.holds("promises without an edge: " + missing, missing.isEmpty());
    }

    private static void run(Edge edge) throws ReflectiveOperationException {
        StrikeBallots real = new StrikeBallots();
        PlainModel model = new PlainModel();
        c.holds(edge.at() + ": too many calls", edge.steps().size() <= MOST_CALLS);
        for (Edge.Step step : edge.steps()) {
            int got = Calls.ask(real, step.call(), step.args());
            if (step.due() == null) {
                c.holds(step + " is refused with " + got, !REFUSALS.contains(got));
            } else {
                c.due(step.toString(), got, step.due());
            }
            c.due(step + " of the model", model.answer(step.call(), step.args()), got);
        }
    }

    /** A refused call changes nothing: with it and without it, all that can be read out is the same. */
    private static void refusals(Edge edge) throws ReflectiveOperationException {
        for (int i = 0; i < edge.steps().size(); i++) {
            Edge.Step step = edge.steps().get(i);
            boolean isRefusal = step.due() != null && REFUSALS.contains(step.due());
            // The numbers that wait are gone behind a check, whatever it answers.
            if (isRefusal && !step.call().equals("check")) {
                List<Integer> without = new ReadOut(replay(edge, i)).all();
                List<Integer> with = new ReadOut(replay(edge, i + 1)).all();
                c.holds(step + " is refused and changes something", with.equals(without));
            }
        }
    }

    private static StrikeBallots replay(Edge edge, int steps) throws ReflectiveOperationException {
        StrikeBallots x = new StrikeBallots();
        for (Edge.Step step : edge.steps().subList(0, steps)) {
            Calls.ask(x, step.call(), step.args());
        }
        return x;
    }
}
