import java.io.IOException;
import java.nio.charset.StandardCharsets;
import java.nio.file.Files;
import java.nio.file.Path;
import java.util.ArrayList;
import java.util.Arrays;
import java.util.List;
import java.util.Map;
import java.util.stream.Collectors;

/** A run of calls on a new object for one sentence of the document that names a boundary case; src/test/edges/README.md tells the form. */
record Edge(String at, List<Integer> promises, String sentence, List<Edge.Step> steps) {
    /** A call with the answer that is due; null, if it need only not be refused. */
    record Step(String at, String call, int[] args, Integer due) {
        @Override
        public String toString() {
            return at + ": " + call + Arrays.toString(args);
        }
    }

    private static final Map<String, Integer> WORDS = Map.of("BAD", Checks.BAD, "NO", Checks.NO, "FULL", Checks.FULL,
            "NONE", Checks.NONE, "NOTHING", Checks.NOTHING, "INDEX", Checks.INDEX, "SIZE", Checks.SIZE,
            "MOST", Checks.MOST_INT, "LEAST", Checks.LEAST_INT);

    static List<Edge> readAll(Path file) throws IOException {
        List<Edge> edges = new ArrayList<>();
        List<String> lines = Files.readAllLines(file, StandardCharsets.ISO_8859_1);
        for (int i = 0; i < lines.size(); i++) {
            String line = lines.get(i).strip();
            String at = file.getFileName() + ":" + (i + 1);
            if (line.startsWith("== ")) {
                edges.add(head(at, line.substring(3)));
            } else if (!line.isEmpty() && !line.startsWith("--")) {
                edges.get(edges.size() - 1).addLine(at, line);
            }
        }
        return edges;
    }

    private static Edge head(String at, String line) {
        String[] parts = line.split(": ", 2);
        List<Integer> promises = Arrays.stream(parts[0].split(",")).map(Integer::valueOf).collect(Collectors.toList());
        return new Edge(at, promises, parts[1], new ArrayList<>());
    }

    private void addLine(String at, String line) {
        String[] halves = line.split(" = (?!.* = )", 2);
        String due = halves.length == 2 ? halves[1].strip() : null;
        String left = halves[0].strip();
        if (!left.startsWith("repeat ")) {
            addCalls(at, left, due, 0);
            return;
        }
        String[] parts = left.substring(7).split(": ", 2);
        for (int i = 0; i < Integer.parseInt(parts[0]); i++) {
            addCalls(at, parts[1], due, i);
        }
    }

    private void addCalls(String at, String left, String due, int turn) {
        Integer want = due == null ? null : number(due, turn);
        if (left.startsWith("law \"")) {
            addLaw(at, left.substring(5, left.lastIndexOf('"')), want);
            return;
        }
        String[] words = left.split(" +");
        int[] args = Arrays.stream(words).skip(1).mapToInt(word -> number(word, turn)).toArray();
        switch (words[0]) {
            case "until":
                for (int today = today(); today < args[0]; today += 60) {
                    add(at, "days", null, Math.min(60, args[0] - today));
                }
                break;
            case "tells":
                for (int v : args) {
                    add(at, "tell", null, v);
                }
                break;
            case "fill":
                add(at, "sheet", args.length - 1, args[0], args.length - 1);
                for (int i = 1; i < args.length; i++) {
                    add(at, "mark", 0, args[0], i - 1, args[i]);
                }
                break;
            case "has":
                for (int i = 1; i < args.length; i++) {
                    add(at, "mark", (int) (short) args[i], args[0], i - 1, args[i]);
                }
                break;
            default:
                add(at, words[0], want, args);
        }
    }

    private int today() {
        return steps.stream().filter(step -> step.call().equals("days") && (step.due() == null || step.due() > 0))
                .mapToInt(step -> step.args()[0]).sum();
    }

    private void addLaw(String at, String quoted, Integer want) {
        StringBuilder text = new StringBuilder();
        for (int i = 0; i < quoted.length(); i++) {
            boolean isByNumber = quoted.charAt(i) == '\\';
            text.append(isByNumber ? (char) Integer.parseInt(quoted.substring(i + 1, i + 3), 16) : quoted.charAt(i));
            i += isByNumber ? 2 : 0;
        }
        add(at, "trim", 0, 0);
        for (int i = 0; i < text.length(); i += 12) {
            String all = text.toString();
            add(at, "feed", i + 12, Checks.four(all, i), Checks.four(all, i + 4), Checks.four(all, i + 8));
        }
        add(at, "trim", text.length(), text.length());
        add(at, "law", want);
    }

    private void add(String at, String call, Integer due, int... args) {
        if (!Calls.isCall(call, args.length)) {
            throw new IllegalArgumentException(at + ": " + call + " of " + args.length);
        }
        steps.add(new Step(at, call, args, due));
    }

    private static int number(String word, int turn) {
        if (WORDS.containsKey(word)) {
            return WORDS.get(word);
        }
        if (word.matches("[a-z]")) {
            return word.charAt(0);
        }
        if (!word.startsWith("#")) {
            return Integer.parseInt(word);
        }
        if (word.length() == 1) {
            return turn;
        }
        int by = Integer.parseInt(word.substring(2));
        switch (word.charAt(1)) {
            case '+': return turn + by;
            case '*': return turn * by;
            case '%': return turn % by;
            default: return turn / by;
        }
    }
}
