import java.util.ArrayList;
import java.util.List;

/** One test for each sentence of the document that names an edge: the sentence, a school's text, calls with answers. */
final class Edges {
    static final int BAD = -1, STATE = -2, FULL = -3, NONE = -9, NO = -1000000;
    // Three spells (0 and 2 glass), three things, three pupils.
    static final String SMALL = "spell 0 1 3 2;spell 1 0 4 1;spell 2 1 0 9;"
        + "thing 1 0;thing;thing 2 1 0 0;pupil 3;pupil 4;pupil 0;swap 2;copy 5;hum 3;";
    // As many of all as there may be, each number as great as it may be.
    static final String GREAT = "spell 9 1 9 9;spell 8 1 9 9;spell 7 1 9 9;spell 6 1 9 9;spell 5 1 9 9;"
        + "thing 4 3 2 1 0;thing;thing 0;thing 1 1 1 1;pupil 31;pupil 1;pupil 30;swap 9;copy 9;hum 5;";

    private final Check check;
    private final int[] edges = new int[30];
    private int promise;
    private String told = "";

    Edges(String test) {
        check = new Check(test);
    }

    void promise(int number) {
        promise = number;
    }

    /**
     * Makes the rows' calls on a new object that has read the school's text (unless it is empty). A row is
     * "CALL = ANSWER"; "CALL ! ANSWER" where the call changes nothing; "do CALL" whatever it answers; each of these
     * behind "N x " as often; or "write TEXT".
     */
    void edge(String sentence, String school, String... rows) {
        edges[promise]++;
        told = "promise " + promise + ", \"" + sentence + "\", ";
        Script script = Script.of(school);
        for (String row : rows) {
            if (row.startsWith("write ")) {
                script.write(row.substring(6));
                continue;
            }
            String[] parts = row.split(" x ");
            for (int i = parts.length == 1 ? 1 : Integer.parseInt(parts[0]); i > 0; i--) {
                make(script, parts[parts.length - 1]);
            }
        }
    }

    private void make(Script script, String row) {
        if (row.startsWith("do ")) {
            script.ask(row.substring(3));
            return;
        }
        boolean changesNothing = row.contains(" ! ");
        String[] parts = row.split(changesNothing ? " ! " : " = ");
        long want = Long.parseLong(parts[1]);
        if (changesNothing) {
            String ahead = script.all();
            due(parts[0], script.ask(parts[0]), want);
            check.holds(told + parts[0] + " changes nothing", script.all().equals(ahead));
        } else {
            due(parts[0], script.ask(parts[0]), want);
        }
    }

    void due(String call, long got, long want) {
        check.due(told + call, got, want);
    }

    /**
     * Makes one number of a call, counted from 0, as great as it may be and more: from low to high it is not refused,
     * beyond it the call answers so, and nothing changes.
     */
    void bounds(String sentence, String school, String call, int place, long low, long high, long refusal) {
        edges[promise]++;
        told = "promise " + promise + ", \"" + sentence + "\", ";
        for (long number = low; number <= high; number += Math.max(1, (high - low) / 8)) {
            within(school, with(call, place, number), refusal);
        }
        within(school, with(call, place, high), refusal);
        List<Long> wrong = new ArrayList<>(List.of(low - 1, high + 1, low - 2, high + 2));
        for (int shift = 5; shift <= 31; shift++) {
            // Numbers that would do if only some of their bits were looked at.
            wrong.add(low + (1L << shift));
            wrong.add(high - (1L << shift));
        }
        for (long end : new long[] {Integer.MIN_VALUE, Integer.MAX_VALUE}) {
            wrong.add(end);
            wrong.add(end + (end < 0 ? 1 : -1));
        }
        for (long number : wrong) {
            boolean isInt = number >= Integer.MIN_VALUE && number <= Integer.MAX_VALUE;
            if (isInt && (number < low || number > high)) {
                make(Script.of(school), with(call, place, number) + " ! " + refusal);
            }
        }
    }

    private void within(String school, String call, long refusal) {
        long got = Script.of(school).ask(call);
        check.holds(told + call + " is not refused", got != refusal);
    }

    private static String with(String call, int place, long number) {
        int open = call.indexOf('(');
        String[] numbers = call.substring(open + 1, call.indexOf(')')).split(", ");
        numbers[place] = Long.toString(number);
        return call.substring(0, open + 1) + String.join(", ", numbers) + ")";
    }

    /** A text read by a new object: how many items, or what the fault makes; THE TEXT is empty then, or stays. */
    void reads(String sentence, String text, int answer) {
        edge(sentence, "", "write " + text, "school() = " + answer, "count(4) = " + (answer < 0 ? text.length() : 0));
    }

    /** A text with a ^ ahead of its fault, read by an object that has a school already: nothing changes. */
    void fault(String sentence, String marked) {
        int place = marked.indexOf('^');
        String text = marked.substring(0, place) + marked.substring(place + 1);
        edge(sentence, SMALL, "lay(0, 1, 1) = 4", "saw(0, 2) = 1", "keep(1) = 4", "rate(0, 0) = 0",
            "write " + text, "school() ! " + (-10 - place), "count(4) = " + text.length());
    }

    /** Ends the tests: each of these promises must have had one. */
    void end(int first, int last) {
        for (int number = first; number <= last; number++) {
            check.holds("promise " + number + " has edges", edges[number] > 0);
        }
        check.end();
    }
}
