import java.util.ArrayList;
import java.util.List;
import java.util.regex.Matcher;
import java.util.regex.Pattern;

/**
 * Calls as rows of words, divided by line ends or "|": "start 0 3 = 0" is a call with the answer that
 * is due, "start 0 3" one that only leads somewhere. "text t1;" empties the text and types what
 * follows, "text t1; * 3" types it three times, and "3 times tick 1 = 0" is the same row three times.
 */
final class Rows {
    /** A call; due is null if the row does not tell the answer. */
    record Row(String call, int[] arguments, Integer due) {
        String told() {
            StringBuilder told = new StringBuilder(call);
            for (int argument : arguments) {
                told.append(' ').append(argument);
            }
            return told.toString();
        }
    }

    /** What the document allows an object. */
    static final int MOST_CALLS = 512;

    private static final Pattern TIMES = Pattern.compile("(\\d+) times (.*)");
    private static final Pattern REPEATED = Pattern.compile("(.*) \\* (\\d+)");

    private Rows() { }

    static List<Row> read(String rows) {
        List<Row> all = new ArrayList<>();
        for (String line : rows.split("[|\n]")) {
            if (!line.isBlank()) {
                readLine(line.strip(), all);
            }
        }
        return all;
    }

    private static void readLine(String line, List<Row> all) {
        Matcher times = TIMES.matcher(line);
        if (times.matches()) {
            for (int i = Integer.parseInt(times.group(1)); i > 0; i--) {
                readLine(times.group(2), all);
            }
        } else if (line.startsWith("text ")) {
            readText(line.substring(5), all);
        } else {
            readCall(line, all);
        }
    }

    private static void readText(String text, List<Row> all) {
        Matcher repeated = REPEATED.matcher(text);
        String whole = repeated.matches() ? repeated.group(1).repeat(Integer.parseInt(repeated.group(2))) : text;
        all.add(new Row("clearText", new int[0], null));
        for (int i = 0; i < whole.length(); i++) {
            all.add(new Row("type", new int[] {whole.charAt(i)}, i + 1));
        }
    }

    private static void readCall(String line, List<Row> all) {
        String[] sides = line.split(" = ");
        String[] words = sides[0].strip().split(" +");
        int[] arguments = new int[words.length - 1];
        for (int i = 0; i < arguments.length; i++) {
            arguments[i] = Integer.parseInt(words[i + 1]);
        }
        all.add(new Row(words[0], arguments, sides.length == 2 ? Integer.valueOf(sides[1].strip()) : null));
    }

    /** Does the rows on a new object: each answer that a row tells is due of the program and of the model. */
    static void check(Checks checks, String sentence, String rows) {
        checks.part(sentence);
        List<Row> all = read(rows);
        checks.holds("at most 512 calls", all.size() <= MOST_CALLS);
        ShapeSessions program = new ShapeSessions();
        Model model = new Model();
        for (int i = 0; i < all.size(); i++) {
            Row row = all.get(i);
            String told = "row " + i + ": " + row.told();
            int answer = Calls.answer(program, row.call(), row.arguments());
            int modelAnswer = Calls.answer(model, row.call(), row.arguments());
            if (row.due() != null) {
                checks.due(told, row.due(), answer);
                checks.due(told + " (the model)", row.due(), modelAnswer);
            } else {
                checks.due(told + " (beside the model)", modelAnswer, answer);
            }
        }
    }
}
