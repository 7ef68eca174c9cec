import java.util.ArrayList;
import java.util.List;

/**
 * One object of SnapRows under trial. Its calls are kept, so that they can be made again on new objects: that is how the
 * whole state is looked at, for which one object has too few calls.
 */
final class Trial {
    /** Behind these the document leaves all answers free. */
    static final int MOST_CALLS = 512;

    private static final List<int[]> QUESTIONS = questions();
    private static String sentence = "";
    private static int sentences = 0;
    private static int looked = 0;
    private static int wrong = 0;

    private final SnapRows object = new SnapRows();
    private final List<int[]> calls = new ArrayList<>();
    /** Too many calls to be kept: only the last one is. */
    private final boolean isEndless;

    Trial() {
        this(false);
    }

    private Trial(boolean isEndless) {
        this.isEndless = isEndless;
    }

    /** For edges that lie behind an object's last promised call. */
    static Trial endless() {
        return new Trial(true);
    }

    /** The words of the document to which the trials that follow belong. */
    static void of(String words) {
        sentence = words;
        sentences++;
    }

    static void endAll() {
        System.out.println(sentences + " sentences, " + looked + " answers looked at, " + wrong + " not as due");
        if (wrong != 0) {
            System.exit(1);
        }
    }

    /** What a call answered, and which of the trial's calls it was. */
    record Answer(Trial trial, int place, int got) {
        void is(int want) {
            looked++;
            if (got != want) {
                trial.blame(place, "answered " + got + ", due is " + want);
            }
        }

        /** The answer is due, and nothing that can be seen now or later is other than without the call. */
        void changesNothing(int want) {
            is(want);
            List<Integer> before = picture(trial.calls.subList(0, place));
            List<Integer> behind = picture(trial.calls.subList(0, place + 1));
            looked += before.size();
            if (!before.equals(behind)) {
                trial.blame(place, "changed something");
            }
        }
    }

    private void blame(int place, String fault) {
        complain(Calls.text(calls.get(place)) + " " + fault + ", behind these calls:");
        for (int i = 0; i < place; i++) {
            System.out.println("    " + Calls.text(calls.get(i)));
        }
    }

    private Answer make(int... call) {
        if (isEndless) {
            calls.clear();
        } else if (calls.size() == MOST_CALLS) {
            complain("a trial of more than " + MOST_CALLS + " calls");
        }
        calls.add(call);
        return new Answer(this, calls.size() - 1, Calls.ask(object, call));
    }

    private static void complain(String fault) {
        wrong++;
        System.out.println("\"" + sentence + "\": " + fault);
    }

    private static List<int[]> questions() {
        List<int[]> all = new ArrayList<>();
        for (int what = 0; what < 9; what++) {
            all.add(new int[] {Calls.TOLD, what});
        }
        for (int i = 0; i < 48; i++) {
            all.add(new int[] {Calls.STATE, i / 6, i % 6});
        }
        for (int i = 0; i < 256; i++) {
            all.add(new int[] {Calls.VERSIONS, i / 4, i % 4});
            for (int what = 0; what < 2; what++) {
                all.add(new int[] {Calls.DATA, i / 4, i % 4, what});
            }
            for (int what = 0; what < 5; what++) {
                all.add(new int[] {Calls.LOCK, i / 4, i % 4, what});
            }
            for (int k = 0; k < 12; k++) {
                all.add(new int[] {Calls.VERSION, i / 4, i % 4, k / 3, k % 3});
            }
        }
        return all;
    }

    /** All that can be asked behind some calls, and all that can be asked when one client goes on from there to its end. */
    private static List<Integer> picture(List<int[]> made) {
        List<Integer> answers = new ArrayList<>();
        askAll(made, answers);
        for (int client = 0; client < 8; client++) {
            List<int[]> longer = new ArrayList<>(made);
            longer.add(new int[] {Calls.COMMIT, client});
            for (int i = 0; i < 20; i++) {
                longer.add(new int[] {Calls.STEP, client});
            }
            askAll(longer, answers);
            answers.add(Calls.ask(made(made), new int[] {Calls.BEGIN, client}));
        }
        answers.add(made(made).timeout(0));
        answers.add(made(made).fallOracle());
        answers.add(made(made).fall());
        return answers;
    }

    private static void askAll(List<int[]> made, List<Integer> answers) {
        int perObject = MOST_CALLS - made.size();
        if (perObject <= 0) {
            complain("a trial too long to be looked at as a whole");
            return;
        }
        SnapRows x = null;
        for (int i = 0; i < QUESTIONS.size(); i++) {
            x = i % perObject == 0 ? made(made) : x;
            answers.add(Calls.ask(x, QUESTIONS.get(i)));
        }
    }

    private static SnapRows made(List<int[]> made) {
        SnapRows x = new SnapRows();
        made.forEach(call -> Calls.ask(x, call));
        return x;
    }

    Answer begin(int client) {
        return make(Calls.BEGIN, client);
    }

    Answer read(int client, int row, int column) {
        return make(Calls.READ, client, row, column);
    }

    Answer next(int client, int row) {
        return make(Calls.NEXT, client, row);
    }

    Answer write(int client, int row, int column, int value) {
        return make(Calls.WRITE, client, row, column, value);
    }

    Answer commit(int client) {
        return make(Calls.COMMIT, client);
    }

    Answer step(int client) {
        return make(Calls.STEP, client);
    }

    Answer crash(int client) {
        return make(Calls.CRASH, client);
    }

    Answer tick(int n) {
        return make(Calls.TICK, n);
    }

    Answer timeout(int n) {
        return make(Calls.TIMEOUT, n);
    }

    Answer fallOracle() {
        return make(Calls.FALL_ORACLE);
    }

    Answer fall() {
        return make(Calls.FALL);
    }

    Answer sweep(int ticket) {
        return make(Calls.SWEEP, ticket);
    }

    Answer state(int client, int what) {
        return make(Calls.STATE, client, what);
    }

    Answer lock(int row, int column, int what) {
        return make(Calls.LOCK, row, column, what);
    }

    Answer versions(int row, int column) {
        return make(Calls.VERSIONS, row, column);
    }

    Answer version(int row, int column, int i, int what) {
        return make(Calls.VERSION, row, column, i, what);
    }

    Answer data(int row, int column, int what) {
        return make(Calls.DATA, row, column, what);
    }

    Answer told(int what) {
        return make(Calls.TOLD, what);
    }

    /** The steps of a client, with the answers that are due. */
    void steps(int client, int... wants) {
        for (int want : wants) {
            step(client).is(want);
        }
    }

    /** A transaction up to its commit(); the cells come in the form row, column, value. */
    void prepare(int client, int... cells) {
        begin(client);
        for (int i = 0; i < cells.length; i += 3) {
            write(client, cells[i], cells[i + 1], cells[i + 2]).is(i / 3 + 1);
        }
        commit(client).is(1);
    }

    /** A transaction that nothing is in the way of, in one row, from its begin to its end. */
    void put(int client, int... cells) {
        prepare(client, cells);
        steps(client, 1, 2);
    }

    /** A whole transaction in all cells of four rows from one on: it makes 64 LINES. */
    void putFourRows(int client, int row) {
        int[] cells = new int[48];
        for (int i = 0; i < 16; i++) {
            cells[3 * i] = row + i / 4;
            cells[3 * i + 1] = i % 4;
            cells[3 * i + 2] = i;
        }
        prepare(client, cells);
        steps(client, 1, 1, 1, 1, 2, 1, 1, 3);
    }

    /** Some client's transaction in one cell that is ROLLED, with one ticket more for who cleaned it. */
    void putRolled(int client, int cleaner, int row, int column) {
        prepare(client, row, column, 99);
        steps(client, 1);
        crash(client).is(1);
        timeout(0);
        tick(1);
        begin(cleaner);
        read(cleaner, row, column).is(-5);
        crash(cleaner).is(1);
        timeout(10);
    }
}
