/** For each promise of the document: ordinary calls, the edges that it names, and wrong inputs. */
public final class PromiseTests {
    private static final int MAX = Integer.MAX_VALUE;
    private static final int MIN = Integer.MIN_VALUE;
    private static int wrong = 0;
    private static int looked = 0;
    private static int promise = 0;
    private static SnapRows x;

    public static void main(String[] args) {
        newObject();
        begin();
        read();
        readBehindLocks();
        next();
        nextBehindLocks();
        write();
        commit();
        stepLocking();
        stepLockingMeetsLocks();
        stepDeciding();
        stepSettling();
        stepUndoing();
        stepsOfSixteenRows();
        crash();
        tick();
        timeout();
        fallOracle();
        fall();
        sweep();
        sweepRefused();
        state();
        lastOfRefusedCalls();
        lock();
        lateByTransactionOrTime();
        versions();
        version();
        data();
        told();
        toldOfTheStore();
        System.out.println(looked + " answers looked at, " + wrong + " not as due");
        if (wrong != 0) {
            System.exit(1);
        }
    }

    private static void fresh(int number) {
        promise = number;
        x = new SnapRows();
    }

    private static void due(String call, int got, int want) {
        looked++;
        if (got != want) {
            wrong++;
            System.out.println("promise " + promise + ": " + call + " answered " + got + ", due is " + want);
        }
    }

    /** One whole transaction of a client: cells in the form row, column, value. */
    private static void put(int client, int... cells) {
        prepare(client, cells);
        for (int i = 0; i < 100; i++) {
            if (x.step(client) == -3) {
                return;
            }
        }
    }

    /** A transaction of 16 cells in four rows from one on: 64 LINES. */
    private static void putSixteen(int client, int row) {
        int[] cells = new int[48];
        for (int i = 0; i < 16; i++) {
            cells[3 * i] = row + i / 4;
            cells[3 * i + 1] = i % 4;
            cells[3 * i + 2] = i;
        }
        put(client, cells);
    }

    /** A transaction up to its commit(), no step done. */
    private static void prepare(int client, int... cells) {
        x.begin(client);
        for (int i = 0; i < cells.length; i += 3) {
            x.write(client, cells[i], cells[i + 1], cells[i + 2]);
        }
        x.commit(client);
    }

    private static void steps(int client, int... wants) {
        for (int i = 0; i < wants.length; i++) {
            due("step(" + client + ") number " + i, x.step(client), wants[i]);
        }
    }

    private static void newObject() {
        fresh(1);
        for (int client = 0; client < 8; client++) {
            for (int what = 0; what < 6; what++) {
                due("state of a new object", x.state(client, what), 0);
            }
        }
        for (int what = 0; what < 9; what++) {
            due("told(" + what + ")", x.told(what), 0);
        }
        for (int row = 0; row < 64; row++) {
            fresh(1);
            for (int column = 0; column < 4; column++) {
                due("versions", x.versions(row, column), 0);
                due("version", x.version(row, column, 0, 0), -1);
                due("data 0", x.data(row, column, 0), 0);
                due("data 1", x.data(row, column, 1), 0);
                for (int what = 0; what < 5; what++) {
                    due("lock", x.lock(row, column, what), 0);
                }
            }
        }
        SnapRows other = new SnapRows();
        x.begin(0);
        x.tick(3);
        due("another object has its own tickets", other.begin(0), 1);
        due("another object has its own clock", other.told(6), 0);
    }

    private static void begin() {
        fresh(2);
        for (int client = 0; client < 8; client++) {
            due("begin", x.begin(client), client + 1);
            due("STATE", x.state(client, 0), 1);
        }
        due("begin once more", x.begin(3), -3);
        due("START stays", x.state(3, 1), 4);
        due("no ticket was given", x.told(0), 8);
        due("begin(-1)", x.begin(-1), -1);
        due("begin(8)", x.begin(8), -1);
        due("begin(MAX)", x.begin(MAX), -1);
        due("begin(MIN)", x.begin(MIN), -1);
        x.commit(3);
        due("begin behind an end", x.begin(3), 9);
        x.write(3, 0, 0, 1);
        x.commit(3);
        due("begin while LOCKING", x.begin(3), -3);
        for (int client = 0; client < 8; client++) {
            x.crash(client);
        }
        for (int ticket = 10; ticket <= 40; ticket++) {
            due("begin", x.begin(0), ticket);
            due("LIMIT", x.told(1), ticket <= 16 ? 16 : ticket <= 32 ? 32 : 48);
            x.crash(0);
        }
    }

    private static void read() {
        fresh(3);
        put(0, 1, 0, 5, 1, 1, 0, 63, 3, MAX);
        x.begin(1);
        due("read", x.read(1, 1, 0), 5);
        due("read 0", x.read(1, 1, 1), 0);
        due("read the greatest", x.read(1, 63, 3), MAX);
        due("read nothing", x.read(1, 1, 2), -7);
        put(0, 1, 0, 6);
        put(0, 1, 1, -1);
        due("its moment stays", x.read(1, 1, 0), 5);
        due("its moment stays, also what is DELETED later", x.read(1, 1, 1), 0);
        x.begin(2);
        due("a later moment", x.read(2, 1, 0), 6);
        due("DELETED", x.read(2, 1, 1), -7);
        x.write(2, 1, 0, 9);
        due("own write", x.read(2, 1, 0), 9);
        due("not for others", x.read(1, 1, 0), 5);
        x.write(2, 1, 0, -1);
        due("own write, DELETED", x.read(2, 1, 0), -7);
        due("read(-1, ..)", x.read(-1, 1, 0), -1);
        due("read(8, ..)", x.read(8, 1, 0), -1);
        due("row -1", x.read(1, -1, 0), -1);
        due("row 64", x.read(1, 64, 0), -1);
        due("column -1", x.read(1, 1, -1), -1);
        due("column 4", x.read(1, 1, 4), -1);
        due("no transaction, no row", x.read(4, 64, 0), -1);
        due("no transaction", x.read(4, 1, 0), -3);
        x.commit(2);
        due("LOCKING", x.read(2, 1, 0), -3);
    }

    private static void readBehindLocks() {
        fresh(3);
        put(0, 1, 0, 5);
        x.begin(7);
        prepare(0, 1, 0, 6, 2, 0, 7);
        steps(0, 1, 1);
        due("a LOCK with a greater START does not bar", x.read(7, 1, 0), 5);
        x.begin(1);
        due("WAIT", x.read(1, 1, 0), -6);
        x.write(1, 1, 0, 8);
        due("own write is not barred", x.read(1, 1, 0), 8);
        due("WAIT in the other row", x.read(1, 2, 0), -6);
        x.tick(10);
        due("not LATE yet", x.read(1, 2, 0), -6);
        x.tick(1);
        due("LATE: the PRIMARY is CLEANED", x.read(1, 2, 0), -5);
        due("PRIMARY's LOCK", x.lock(1, 0, 0), 0);
        due("PRIMARY's WRITE is its START", x.version(1, 0, 0, 0), 4);
        due("PRIMARY's WRITE is ROLLED", x.version(1, 0, 0, 1), 0);
        due("PRIMARY's DATA", x.data(1, 0, 0), 1);
        due("the other LOCK stays", x.lock(2, 0, 0), 4);
        due("then this one", x.read(1, 2, 0), -5);
        due("its LOCK goes", x.lock(2, 0, 0), 0);
        due("its DATA go", x.data(2, 0, 0), 0);
        due("no WRITE", x.versions(2, 0), 0);
        due("then nothing", x.read(1, 2, 0), -7);
        due("two CLEANED", x.told(8), 2);

        fresh(3);
        prepare(0, 1, 0, 6, 2, 0, 7, 3, 0, 8);
        steps(0, 1, 1, 1, 2);
        x.begin(1);
        due("DECIDED: committed", x.read(1, 3, 0), -5);
        due("WRITE of the ticket", x.version(3, 0, 0, 0), 2);
        due("WRITE of the START", x.version(3, 0, 0, 1), 1);
        due("read then", x.read(1, 3, 0), 8);
        due("the other one is still locked", x.lock(2, 0, 0), 1);
        steps(0, 1, 3);
        due("one WRITE only", x.versions(3, 0), 1);
        due("read the other", x.read(1, 2, 0), 7);

        fresh(3);
        prepare(0, 1, 0, 6, 2, 0, 7);
        steps(0, 1, 1);
        x.begin(1);
        steps(0, 2);
        due("committed behind the moment: AGAIN", x.read(1, 2, 0), -5);
        due("and then nothing is seen", x.read(1, 2, 0), -7);
    }

    private static void next() {
        fresh(4);
        x.begin(7);
        due("empty", x.next(7, 0), -7);
        put(0, 3, 3, 0, 5, 1, 7, 63, 0, 1);
        due("not in this moment", x.next(7, 0), -7);
        x.begin(1);
        due("next(0)", x.next(1, 0), 3);
        due("next of the row itself", x.next(1, 3), 3);
        due("next(4)", x.next(1, 4), 5);
        due("next(6)", x.next(1, 6), 63);
        due("next(63)", x.next(1, 63), 63);
        x.write(1, 3, 3, -1);
        due("own write, DELETED", x.next(1, 0), 5);
        x.write(1, 4, 2, 0);
        due("own write", x.next(1, 0), 4);
        x.write(1, 63, 0, -1);
        due("none from there on", x.next(1, 6), -7);
        put(0, 5, 1, -1);
        x.begin(2);
        due("DELETED", x.next(2, 4), 63);
        due("row -1", x.next(1, -1), -1);
        due("row 64", x.next(1, 64), -1);
        due("client -1", x.next(-1, 0), -1);
        due("client 8", x.next(8, 0), -1);
        due("no transaction", x.next(5, 0), -3);
        x.commit(1);
        due("LOCKING", x.next(1, 0), -3);
    }

    private static void nextBehindLocks() {
        fresh(4);
        put(0, 5, 1, 7, 9, 0, 1);
        prepare(0, 5, 2, 1, 7, 0, 1);
        steps(0, 1, 1);
        x.begin(1);
        due("something SEEN before the LOCK", x.next(1, 0), 5);
        due("LOCK before something SEEN", x.next(1, 6), -6);
        x.write(1, 7, 0, -1);
        due("own write is not barred", x.next(1, 6), 9);
        x.begin(2);
        x.write(2, 5, 1, -1);
        due("a cell that is not seen, then the LOCK of its row", x.next(2, 0), -6);
        x.tick(11);
        due("CLEANED", x.next(2, 0), -5);
        due("goes on: one more LOCK", x.next(2, 0), -5);
        due("goes on", x.next(2, 0), 9);
        due("CLEANED so far", x.told(8), 2);

        fresh(4);
        x.begin(7);
        prepare(0, 5, 2, 1);
        steps(0, 1);
        due("a LOCK with a greater START does not bar", x.next(7, 0), -7);
    }

    private static void write() {
        fresh(5);
        x.begin(0);
        due("first", x.write(0, 0, 0, 0), 1);
        due("second", x.write(0, 63, 3, MAX), 2);
        due("in place of the first", x.write(0, 0, 0, -1), 2);
        due("in place of that", x.write(0, 0, 0, 8), 2);
        due("which counts", x.read(0, 0, 0), 8);
        for (int i = 2; i < 16; i++) {
            due("write", x.write(0, i, 0, i), i + 1);
        }
        due("17th", x.write(0, 40, 0, 1), -4);
        due("in place of one of 16", x.write(0, 63, 3, 4), 16);
        due("17th is not there", x.read(0, 40, 0), -7);
        due("16 stay", x.state(0, 3), 16);
        due("below -1", x.write(0, 40, 0, -2), -2);
        due("MIN", x.write(0, 0, 0, MIN), -2);
        due("-1 before -2", x.write(0, 64, 0, -2), -1);
        due("-2 before -3", x.write(1, 0, 0, -2), -2);
        due("client -1", x.write(-1, 0, 0, 1), -1);
        due("client 8", x.write(8, 0, 0, 1), -1);
        due("row -1", x.write(0, -1, 0, 1), -1);
        due("row 64", x.write(0, 64, 0, 1), -1);
        due("column -1", x.write(0, 0, -1, 1), -1);
        due("column 4", x.write(0, 0, 4, 1), -1);
        due("no transaction", x.write(1, 0, 0, 1), -3);
        due("nothing comes to the table", x.told(2), 0);
        x.commit(0);
        due("LOCKING", x.write(0, 0, 0, 1), -3);
        steps(0, 1);
        due("PRIMARY is what was written first", x.lock(0, 0, 1), 0);
        steps(0, 1);
        due("the second row is 63", x.lock(63, 3, 0), 1);
    }

    private static void commit() {
        fresh(6);
        x.begin(0);
        due("without own writes", x.commit(0), 3);
        due("at its end", x.state(0, 0), 0);
        due("none", x.commit(0), -3);
        x.begin(0);
        x.write(0, 1, 1, -1);
        due("with an own write", x.commit(0), 1);
        due("LOCKING", x.state(0, 0), 2);
        due("no LOCK yet", x.lock(1, 1, 0), 0);
        due("LOCKING already", x.commit(0), -3);
        due("client -1", x.commit(-1), -1);
        due("client 8", x.commit(8), -1);
        due("no ticket is taken", x.told(0), 2);
    }

    private static void stepLocking() {
        fresh(7);
        due("none", x.step(0), -3);
        due("client -1", x.step(-1), -1);
        due("client 8", x.step(8), -1);
        x.begin(0);
        due("OPEN", x.step(0), -3);
        x.write(0, 9, 3, 1);
        due("OPEN with own writes", x.step(0), -3);
        x.write(0, 4, 1, 2);
        x.write(0, 9, 0, 3);
        x.commit(0);
        x.tick(5);
        steps(0, 1);
        due("first ROW, column 3", x.lock(9, 3, 0), 1);
        due("first ROW, column 0", x.lock(9, 0, 0), 1);
        due("PRIMARY", x.lock(9, 0, 1), 39);
        due("TIME", x.lock(9, 0, 2), 5);
        due("DATA", x.data(9, 0, 1), 1);
        due("second ROW has none", x.lock(4, 1, 0), 0);
        due("other cells have none", x.lock(9, 1, 0), 0);
        x.tick(1);
        steps(0, 1);
        due("second ROW", x.lock(4, 1, 0), 1);
        due("its TIME", x.lock(4, 1, 2), 6);
        due("RECORDS", x.told(2), 9);

        fresh(7);
        x.begin(0);
        x.begin(1);
        x.write(0, 1, 0, 1);
        put(2, 1, 0, 2);
        x.commit(0);
        steps(0, 4, 0, -3);
        due("a later WRITE stays", x.version(1, 0, 0, 2), 2);
        x.write(1, 1, 1, 1);
        x.commit(1);
        steps(1, 1, 2, -3);
        put(2, 1, 0, 3);
        due("an earlier WRITE does not matter", x.version(1, 0, 0, 2), 3);

        fresh(7);
        x.begin(0);
        prepare(1, 1, 0, 1);
        steps(1, 1);
        x.tick(11);
        x.begin(2);
        due("someone cleans", x.read(2, 1, 0), -5);
        x.write(0, 1, 0, 3);
        x.commit(0);
        steps(0, 4, 0);
        prepare(3, 1, 0, 3);
        steps(3, 1, 2);
        due("a ROLLED one below START does not matter", x.versions(1, 0), 2);
    }

    private static void stepLockingMeetsLocks() {
        fresh(7);
        prepare(0, 1, 0, 1, 2, 0, 1);
        prepare(1, 2, 0, 2, 1, 0, 2);
        steps(0, 1);
        steps(1, 1);
        due("a LOCK of the later one", x.step(0), 4);
        due("a LOCK of the earlier one", x.step(1), 4);
        steps(0, 1, 0);
        steps(1, 1, 0);
        due("only the ROLLED ones stay", x.told(2), 2);

        fresh(7);
        prepare(0, 1, 2, 1, 2, 0, 1);
        steps(0, 1, 1, 2);
        prepare(1, 3, 0, 1, 2, 0, 2);
        steps(1, 1, 5, 1, 2, 3);
        due("the cleaned one is committed", x.version(2, 0, 1, 2), 1);
        due("and then the next", x.version(2, 0, 0, 2), 2);
        steps(0, 3);

        fresh(7);
        prepare(0, 1, 0, 1, 1, 1, 1);
        steps(0, 1);
        x.crash(0);
        x.begin(3);
        put(3, 1, 2, 4);
        x.tick(11);
        prepare(1, 1, 1, 1, 1, 2, 1);
        steps(1, 5);
        due("PRIMARY first", x.lock(1, 0, 0), 0);
        due("the cell's own later", x.lock(1, 1, 0), 1);
        steps(1, 5, 1, 2);
        due("CLEANED", x.told(8), 2);

        fresh(7);
        prepare(0, 1, 0, 1);
        steps(0, 1);
        x.crash(0);
        x.begin(1);
        put(2, 1, 1, 1);
        x.tick(11);
        x.write(1, 1, 1, 2);
        x.write(1, 1, 0, 2);
        x.commit(1);
        steps(1, 5);
        due("by columns: the LOCK in column 0 comes first", x.lock(1, 0, 0), 0);
        steps(1, 4, 0);

        fresh(7);
        x.begin(1);
        prepare(0, 1, 1, 1);
        steps(0, 1);
        x.crash(0);
        put(2, 1, 0, 1);
        x.tick(11);
        x.write(1, 1, 1, 2);
        x.write(1, 1, 0, 2);
        x.commit(1);
        steps(1, 4);
        due("by columns: the WRITE in column 0 comes first", x.lock(1, 1, 0), 2);
    }

    private static void stepDeciding() {
        fresh(7);
        prepare(0, 1, 0, 5, 1, 3, -1);
        steps(0, 1, 2, -3);
        due("one ROW: at its end", x.state(0, 0), 0);
        due("ticket in column 0", x.version(1, 0, 0, 0), 2);
        due("ticket in column 3", x.version(1, 3, 0, 0), 2);
        due("no LOCK", x.lock(1, 0, 0), 0);
        due("no LOCK", x.lock(1, 3, 0), 0);
        due("DATA stay", x.data(1, 3, 0), 1);

        fresh(7);
        prepare(0, 1, 0, 5, 2, 0, 6);
        steps(0, 1);
        x.tick(11);
        x.begin(1);
        due("the PRIMARY is cleaned", x.read(1, 1, 0), -5);
        steps(0, 1, 4);
        due("its ticket is spent", x.told(0), 3);
        due("UNDOING", x.state(0, 0), 4);
        steps(0, 1, 0, -3);
        due("all is undone", x.data(2, 0, 0), 0);
        due("not committed", x.told(7), 0);

        fresh(7);
        prepare(0, 1, 0, 5);
        steps(0, 1);
        x.tick(11);
        prepare(1, 1, 0, 6);
        steps(1, 5, 1);
        due("another one has the PRIMARY's LOCK", x.lock(1, 0, 0), 2);
        steps(0, 4, 0);
        due("which stays", x.lock(1, 0, 0), 2);
        steps(1, 2);
    }

    private static void stepSettling() {
        fresh(7);
        prepare(0, 1, 0, 5, 2, 0, 6, 2, 1, 7, 3, 0, 8);
        steps(0, 1, 1, 1, 2);
        due("SETTLING", x.state(0, 0), 3);
        due("no WRITE yet", x.versions(2, 0), 0);
        steps(0, 1);
        due("WRITE", x.version(2, 0, 0, 0), 2);
        due("WRITE of the same ROW", x.version(2, 1, 0, 1), 1);
        due("third ROW not yet", x.versions(3, 0), 0);
        steps(0, 3, -3);
        due("third ROW", x.version(3, 0, 0, 2), 8);
        due("no LOCK", x.lock(3, 0, 0), 0);
        due("RECORDS", x.told(2), 8);

        fresh(7);
        prepare(0, 1, 0, 5, 2, 0, 6);
        steps(0, 1, 1, 2);
        prepare(1, 2, 0, 9);
        steps(1, 5, 1);
        steps(0, 3);
        due("a LOCK of another START stays", x.lock(2, 0, 0), 3);
        due("one WRITE", x.versions(2, 0), 1);
    }

    private static void stepUndoing() {
        fresh(7);
        prepare(1, 3, 0, 1);
        steps(1, 1);
        prepare(0, 1, 1, 5, 2, 0, 6, 1, 0, 6, 3, 0, 7);
        steps(0, 1, 1, 4);
        due("UNDOING", x.state(0, 0), 4);
        steps(0, 1);
        due("first ROW", x.lock(1, 0, 0), 0);
        due("first ROW", x.lock(1, 1, 0), 0);
        due("PRIMARY: ROLLED", x.version(1, 1, 0, 1), 0);
        due("PRIMARY: the ticket is START", x.version(1, 1, 0, 0), 2);
        due("not the other cell", x.versions(1, 0), 0);
        due("no DATA", x.data(1, 0, 0) + x.data(1, 1, 0), 0);
        due("second ROW not yet", x.lock(2, 0, 0), 2);
        steps(0, 1);
        due("second ROW", x.lock(2, 0, 0), 0);
        due("no WRITE there", x.versions(2, 0), 0);
        steps(0, 0, -3);
        due("the other's LOCK stays", x.lock(3, 0, 0), 1);
        due("the other's DATA stay", x.data(3, 0, 1), 1);

        fresh(7);
        prepare(1, 3, 0, 1);
        prepare(0, 1, 1, 5, 2, 0, 6, 3, 0, 7);
        steps(0, 1, 1);
        steps(1, 1);
        steps(0, 4);
        x.tick(11);
        x.begin(2);
        due("others clean the PRIMARY", x.read(2, 1, 1), -5);
        due("one ROLLED", x.versions(1, 1), 1);
        steps(0, 1);
        due("the ROW with a LOCK comes next", x.lock(2, 0, 0), 0);
        due("no second ROLLED", x.versions(1, 1), 1);
        steps(0, 0);
    }

    private static void stepsOfSixteenRows() {
        fresh(7);
        int[] cells = new int[48];
        for (int i = 0; i < 16; i++) {
            cells[3 * i] = 63 - i;
            cells[3 * i + 1] = i % 4;
            cells[3 * i + 2] = i;
        }
        prepare(1, 48, 3, 7);
        steps(1, 1);
        prepare(0, cells);
        steps(0, 1, 1, 1, 1, 1, 1, 1, 1, 1, 1, 1, 1, 1, 1, 1, 4);
        steps(0, 1, 1, 1, 1, 1, 1, 1, 1, 1, 1, 1, 1, 1, 1, 1, 0, -3);
        due("the other's LOCK and DATA, and one ROLLED", x.told(2), 4);
        due("ROLLED", x.version(63, 0, 0, 0), 2);
        steps(1, 2);
        prepare(0, cells);
        steps(0, 1, 1, 1, 1, 1, 1, 1, 1, 1, 1, 1, 1, 1, 1, 1, 1, 2);
        steps(0, 1, 1, 1, 1, 1, 1, 1, 1, 1, 1, 1, 1, 1, 1, 3, -3);
        x.begin(0);
        due("all of it", x.next(0, 0), 48);
        due("the last ROW", x.read(0, 48, 3), 15);
    }

    private static void crash() {
        fresh(8);
        due("none", x.crash(0), 0);
        x.begin(0);
        x.write(0, 1, 1, 1);
        due("OPEN", x.crash(0), 1);
        due("none any more", x.crash(0), 0);
        for (int what = 0; what < 6; what++) {
            due("state", x.state(0, what), 0);
        }
        prepare(0, 1, 1, 1);
        steps(0, 1);
        due("LOCKING", x.crash(0), 1);
        due("its LOCKS stay", x.lock(1, 1, 0), 2);
        due("its DATA stay", x.data(1, 1, 0), 1);
        due("step", x.step(0), -3);
        due("begin", x.begin(0), 3);
        due("no own writes", x.state(0, 3), 0);
        due("client -1", x.crash(-1), -1);
        due("client 8", x.crash(8), -1);
    }

    private static void tick() {
        fresh(9);
        due("tick(0)", x.tick(0), 0);
        due("tick(1)", x.tick(1), 1);
        due("tick(100000)", x.tick(100000), 100001);
        due("tick(100001)", x.tick(100001), -2);
        due("tick(-1)", x.tick(-1), -2);
        due("tick(MAX)", x.tick(MAX), -2);
        due("tick(MIN)", x.tick(MIN), -2);
        due("told(6)", x.told(6), 100001);
    }

    private static void timeout() {
        fresh(10);
        due("at first", x.timeout(3), 10);
        due("then", x.timeout(100000), 3);
        due("100001", x.timeout(100001), -2);
        due("-1", x.timeout(-1), -2);
        due("MIN", x.timeout(MIN), -2);
        due("it stays", x.timeout(0), 100000);
        prepare(0, 1, 0, 1);
        steps(0, 1);
        due("TIMEOUT 0, at once", x.lock(1, 0, 3), 0);
        x.tick(1);
        due("TIMEOUT 0, 1 later", x.lock(1, 0, 3), 1);
        due("another one", x.timeout(1), 0);
        due("counts for LOCKS that are there", x.lock(1, 0, 3), 0);
    }

    private static void fallOracle() {
        fresh(11);
        due("at first", x.fallOracle(), 1);
        due("LIMIT", x.told(1), 0);
        due("begin", x.begin(0), 1);
        due("falls", x.fallOracle(), 17);
        due("falls again", x.fallOracle(), 17);
        due("LIMIT stays", x.told(1), 16);
        due("the last ticket that was given", x.told(0), 1);
        due("begin", x.begin(1), 17);
        due("LIMIT", x.told(1), 32);
        due("begin", x.begin(2), 18);
        due("falls", x.fallOracle(), 33);
        x.write(0, 1, 0, 1);
        x.commit(0);
        steps(0, 1, 2);
        due("its ticket", x.version(1, 0, 0, 0), 33);
        due("LIMIT", x.told(1), 48);
        for (int ticket = 34; ticket <= 48; ticket++) {
            due("begin", x.begin(3), ticket);
            x.crash(3);
        }
        due("falls when all are given", x.fallOracle(), 49);
        due("the same as without", x.begin(3), 49);
        due("LIMIT", x.told(1), 64);
    }

    private static void fall() {
        fresh(12);
        due("empty", x.fall(), 0);
        prepare(0, 1, 0, 1, 2, 0, -1);
        steps(0, 1, 1, 2);
        due("LINES", x.fall(), 6);
        due("LINES as before", x.fall(), 6);
        due("told(3)", x.told(3), 6);
        due("WRITE stays", x.version(1, 0, 0, 0), 2);
        due("LOCK stays", x.lock(2, 0, 0), 1);
        due("the transaction stays", x.state(0, 0), 3);
        steps(0, 3);
        due("LINES", x.fall(), 8);
    }

    private static void sweep() {
        fresh(13);
        due("sweep(0) of nothing", x.sweep(0), 0);
        put(0, 1, 0, 1);
        put(0, 1, 0, 2);
        put(0, 1, 0, 3);
        put(0, 2, 0, 4);
        put(0, 2, 0, -1);
        due("RECORDS", x.told(2), 10);
        due("sweep(0)", x.sweep(0), 0);
        due("sweep(3): only one is not above", x.sweep(3), 0);
        due("sweep(4): the least goes", x.sweep(4), 2);
        due("two are left", x.versions(1, 0), 2);
        due("with their DATA", x.data(1, 0, 0), 2);
        due("LINES", x.told(3), 22);
        due("sweep(9): not the DELETED one", x.sweep(9), 2);
        due("value", x.version(1, 0, 0, 2), 3);
        due("one is left", x.versions(1, 0), 1);
        due("two of the other cell", x.versions(2, 0), 2);
        due("sweep(10): the DELETED one, too", x.sweep(10), 4);
        due("nothing of the other cell", x.versions(2, 0) + x.data(2, 0, 0), 0);
        due("RECORDS", x.told(2), 2);
        due("sweep(10) again", x.sweep(10), 0);
        x.begin(0);
        due("still seen", x.read(0, 1, 0), 3);

        fresh(13);
        prepare(0, 1, 0, 1);
        steps(0, 1);
        x.tick(11);
        x.begin(1);
        x.read(1, 1, 0);
        x.crash(0);
        x.crash(1);
        due("ROLLED is there", x.versions(1, 0), 1);
        put(0, 1, 0, 7);
        prepare(2, 1, 0, 8);
        x.begin(3);
        steps(2, 1);
        x.tick(11);
        due("cleaned", x.read(3, 1, 0), -5);
        x.crash(2);
        due("a ROLLED one is not the greatest that stays", x.sweep(6), 2);
        due("what stays", x.version(1, 0, 0, 0), 4);
        due("its value", x.version(1, 0, 0, 2), 7);
        due("seen", x.read(3, 1, 0), 7);

        fresh(13);
        put(0, 1, 0, -1);
        put(0, 1, 0, 5);
        put(0, 1, 0, -1);
        due("an older DELETED, and the one of the value", x.sweep(6), 6);
        due("nothing is left", x.told(2), 0);
    }

    private static void sweepRefused() {
        fresh(13);
        due("below 0", x.sweep(-1), -2);
        due("MIN", x.sweep(MIN), -2);
        due("not given yet", x.sweep(1), -2);
        due("MAX", x.sweep(MAX), -2);
        put(0, 1, 0, 1);
        put(0, 1, 0, 2);
        x.begin(5);
        due("the START itself", x.sweep(5), 2);
        due("not given yet", x.sweep(6), -2);
        x.begin(6);
        due("a START below it", x.sweep(6), -3);
        due("-2 before -3", x.sweep(7), -2);
        x.crash(5);
        due("none below it", x.sweep(6), 0);
        x.crash(6);
        prepare(0, 3, 0, 1);
        steps(0, 1);
        x.crash(0);
        due("a LOCK with this START", x.sweep(7), -3);
        due("a LOCK with a START above", x.sweep(6), 0);
        x.begin(1);
        x.crash(1);
        due("a LOCK with a START below", x.sweep(8), -3);
        x.fallOracle();
        due("not given yet, behind a fall", x.sweep(9), -2);
    }

    private static void state() {
        fresh(14);
        x.tick(4);
        x.begin(2);
        due("STATE", x.state(2, 0), 1);
        due("START", x.state(2, 1), 1);
        due("LAST", x.state(2, 2), 4);
        due("cells", x.state(2, 3), 0);
        due("ROWS done", x.state(2, 4), 0);
        due("ticket", x.state(2, 5), 0);
        x.write(2, 5, 1, 1);
        x.write(2, 6, 0, 1);
        x.write(2, 5, 2, 1);
        x.write(2, 7, 2, 1);
        due("cells", x.state(2, 3), 4);
        x.commit(2);
        due("LOCKING", x.state(2, 0), 2);
        due("ROWS done", x.state(2, 4), 0);
        steps(2, 1);
        due("ROWS done", x.state(2, 4), 1);
        steps(2, 1, 1);
        due("ROWS done", x.state(2, 4), 3);
        due("ticket", x.state(2, 5), 0);
        x.begin(3);
        steps(2, 2);
        due("SETTLING", x.state(2, 0), 3);
        due("ROWS done", x.state(2, 4), 1);
        due("ticket", x.state(2, 5), 3);
        due("cells", x.state(2, 3), 4);
        steps(2, 1);
        due("ROWS done", x.state(2, 4), 2);
        steps(2, 3);
        for (int what = 0; what < 6; what++) {
            due("none", x.state(2, what), 0);
        }
        x.write(3, 9, 0, 1);
        x.write(3, 5, 1, 1);
        x.commit(3);
        steps(3, 1);
        due("ROWS done", x.state(3, 4), 1);
        steps(3, 4);
        due("UNDOING", x.state(3, 0), 4);
        due("ROWS done while UNDOING", x.state(3, 4), 0);
        due("START while UNDOING", x.state(3, 1), 2);
        due("cells while UNDOING", x.state(3, 3), 2);
        due("ticket while UNDOING", x.state(3, 5), 0);
        due("what -1", x.state(3, -1), -2);
        due("what 6", x.state(3, 6), -2);
        due("what 6, none", x.state(0, 6), -2);
        due("client -1", x.state(-1, 0), -1);
        due("client 8", x.state(8, 0), -1);
        due("-1 before -2", x.state(8, 6), -1);
    }

    private static void lastOfRefusedCalls() {
        fresh(14);
        x.begin(0);
        x.tick(1);
        x.begin(0);
        due("LAST of begin, -3", x.state(0, 2), 1);
        x.tick(1);
        x.read(0, 1, 1);
        due("LAST of read, -7", x.state(0, 2), 2);
        x.tick(1);
        x.next(0, 1);
        due("LAST of next, -7", x.state(0, 2), 3);
        x.tick(1);
        x.write(0, 1, 1, -2);
        due("LAST of write, -2", x.state(0, 2), 4);
        x.tick(1);
        x.step(0);
        due("LAST of step, -3", x.state(0, 2), 5);
        x.tick(1);
        x.read(0, 64, 0);
        x.read(0, 0, 4);
        x.next(0, 64);
        x.write(0, 64, 0, 1);
        x.write(0, 64, 0, -2);
        due("not of -1", x.state(0, 2), 5);
        x.state(0, 0);
        x.lock(0, 0, 0);
        x.fall();
        x.fallOracle();
        x.sweep(0);
        x.timeout(10);
        x.begin(1);
        due("nor of calls that are not its own", x.state(0, 2), 5);
        x.write(0, 1, 1, 1);
        due("LAST of write", x.state(0, 2), 6);
        x.tick(1);
        x.commit(0);
        due("LAST of commit", x.state(0, 2), 7);
        x.tick(1);
        x.commit(0);
        due("LAST of commit, -3", x.state(0, 2), 8);
        x.tick(1);
        x.read(0, 1, 1);
        due("LAST of read, -3", x.state(0, 2), 9);
        x.tick(1);
        x.next(0, 1);
        due("LAST of next, -3", x.state(0, 2), 10);
        x.tick(1);
        x.write(0, 1, 1, 1);
        due("LAST of write, -3", x.state(0, 2), 11);
        x.tick(1);
        x.step(0);
        due("LAST of step", x.state(0, 2), 12);
        x.tick(1);
        x.begin(0);
        due("LAST of begin, -3", x.state(0, 2), 13);
        x.read(2, 0, 0);
        x.write(2, 0, 0, -2);
        due("none has no LAST", x.state(2, 2), 0);

        fresh(14);
        x.begin(0);
        for (int i = 0; i < 16; i++) {
            x.write(0, i, 0, 1);
        }
        x.tick(1);
        due("17th", x.write(0, 20, 0, 1), -4);
        due("LAST of write, -4", x.state(0, 2), 1);
        prepare(1, 30, 0, 1, 31, 0, 1);
        steps(1, 1, 1);
        x.begin(2);
        x.tick(1);
        due("WAIT", x.read(2, 31, 0), -6);
        due("LAST of read, -6", x.state(2, 2), 2);
        steps(1, 2);
        x.tick(1);
        due("AGAIN", x.read(2, 31, 0), -5);
        due("LAST of read, -5", x.state(2, 2), 3);
    }

    private static void lock() {
        fresh(15);
        x.tick(7);
        prepare(0, 9, 3, 1, 8, 0, 2);
        steps(0, 1);
        x.tick(2);
        steps(0, 1);
        due("START", x.lock(8, 0, 0), 1);
        due("PRIMARY", x.lock(8, 0, 1), 39);
        due("PRIMARY of itself", x.lock(9, 3, 1), 39);
        due("TIME", x.lock(8, 0, 2), 9);
        due("TIME of the first", x.lock(9, 3, 2), 7);
        due("LATE", x.lock(8, 0, 3), 0);
        due("DECIDED", x.lock(8, 0, 4), 0);
        due("DECIDED of itself", x.lock(9, 3, 4), 0);
        steps(0, 2);
        due("DECIDED then", x.lock(8, 0, 4), 1);
        for (int what = 0; what < 5; what++) {
            due("no LOCK any more", x.lock(9, 3, what), 0);
        }
        due("what -1", x.lock(8, 0, -1), -2);
        due("what 5", x.lock(8, 0, 5), -2);
        due("what 5 without a LOCK", x.lock(0, 0, 5), -2);
        due("row -1", x.lock(-1, 0, 0), -1);
        due("row 64", x.lock(64, 0, 0), -1);
        due("column -1", x.lock(0, -1, 0), -1);
        due("column 4", x.lock(0, 4, 0), -1);
        due("-1 before -2", x.lock(0, 4, 5), -1);
        x.tick(30);
        due("no LOCK is not LATE", x.lock(0, 0, 3), 0);

        fresh(15);
        prepare(0, 1, 0, 1, 2, 0, 2);
        steps(0, 1, 1);
        x.tick(11);
        x.begin(1);
        x.read(1, 1, 0);
        prepare(2, 1, 0, 3);
        steps(2, 1);
        due("PRIMARY has a LOCK with another START", x.lock(1, 0, 0), 3);
        due("so it is DECIDED", x.lock(2, 0, 4), 1);
    }

    private static void lateByTransactionOrTime() {
        fresh(15);
        prepare(0, 1, 0, 1, 2, 0, 1);
        steps(0, 1);
        x.tick(8);
        steps(0, 1);
        x.tick(10);
        due("by LAST: not yet", x.lock(1, 0, 3), 0);
        x.tick(1);
        due("by LAST", x.lock(1, 0, 3), 1);
        due("by LAST, the other", x.lock(2, 0, 3), 1);
        x.read(0, 0, 0);
        due("a call that is refused keeps it", x.lock(1, 0, 3), 0);
        x.crash(0);
        due("by TIME", x.lock(1, 0, 3), 1);
        due("by TIME, the other", x.lock(2, 0, 3), 1);
        x.timeout(11);
        due("by TIME, the other, not yet", x.lock(2, 0, 3), 0);
        due("by TIME, the first", x.lock(1, 0, 3), 1);
        x.timeout(18);
        x.begin(0);
        due("another transaction of the client does not count", x.lock(1, 0, 3), 1);
    }

    private static void versions() {
        fresh(16);
        put(0, 1, 0, 1);
        due("one", x.versions(1, 0), 1);
        put(0, 1, 0, -1);
        due("two, one of them DELETED", x.versions(1, 0), 2);
        prepare(0, 1, 0, 3);
        steps(0, 1);
        due("a LOCK is none", x.versions(1, 0), 2);
        x.tick(11);
        x.begin(1);
        x.read(1, 1, 0);
        due("ROLLED, too", x.versions(1, 0), 3);
        due("another cell", x.versions(1, 1), 0);
        due("row -1", x.versions(-1, 0), -1);
        due("row 64", x.versions(64, 0), -1);
        due("column -1", x.versions(0, -1), -1);
        due("column 4", x.versions(0, 4), -1);
    }

    private static void version() {
        fresh(17);
        put(0, 1, 0, 8);
        prepare(0, 1, 0, 3);
        steps(0, 1);
        x.tick(11);
        x.begin(1);
        x.read(1, 1, 0);
        x.crash(0);
        put(0, 1, 0, -1);
        int[][] due = {{6, 5, -1}, {3, 0, 0}, {2, 1, 8}};
        for (int i = 0; i < 3; i++) {
            for (int what = 0; what < 3; what++) {
                due("version(1, 0, " + i + ", " + what + ")", x.version(1, 0, i, what), due[i][what]);
            }
            due("what -1", x.version(1, 0, i, -1), -2);
            due("what 3", x.version(1, 0, i, 3), -2);
        }
        due("i -1", x.version(1, 0, -1, 0), -1);
        due("i 3", x.version(1, 0, 3, 0), -1);
        due("i MAX", x.version(1, 0, MAX, 0), -1);
        due("i MIN", x.version(1, 0, MIN, 0), -1);
        due("-1 before -2", x.version(1, 0, 3, 3), -1);
        due("another cell", x.version(1, 1, 0, 0), -1);
        due("row -1", x.version(-1, 0, 0, 0), -1);
        due("row 64", x.version(64, 0, 0, 0), -1);
        due("column -1", x.version(1, -1, 0, 0), -1);
        due("column 4", x.version(1, 4, 0, 0), -1);

        fresh(17);
        prepare(0, 1, 0, 8, 2, 0, 9);
        x.begin(1);
        steps(0, 1, 1, 2);
        put(2, 3, 0, 1);
        x.write(1, 2, 0, 4);
        x.commit(1);
        steps(1, 5, 4);
        due("a cleaned cell has the ticket of the commit", x.version(2, 0, 0, 0), 3);
        due("not a later one", x.told(0), 5);
    }

    private static void data() {
        fresh(18);
        prepare(0, 1, 0, 8);
        due("own writes are none", x.data(1, 0, 0), 0);
        steps(0, 1);
        due("one with its LOCK", x.data(1, 0, 0), 1);
        due("its START", x.data(1, 0, 1), 1);
        steps(0, 2);
        put(0, 1, 0, -1);
        due("DELETED counts", x.data(1, 0, 0), 2);
        due("the greatest START", x.data(1, 0, 1), 3);
        prepare(0, 1, 0, 4);
        steps(0, 1);
        due("three", x.data(1, 0, 0), 3);
        due("the greatest START", x.data(1, 0, 1), 5);
        x.tick(11);
        x.begin(1);
        x.read(1, 1, 0);
        due("ROLLED has none", x.data(1, 0, 0), 2);
        due("the greatest START", x.data(1, 0, 1), 3);
        due("what -1", x.data(1, 0, -1), -2);
        due("what 2", x.data(1, 0, 2), -2);
        due("what 2 of an empty cell", x.data(1, 1, 2), -2);
        due("row -1", x.data(-1, 0, 0), -1);
        due("row 64", x.data(64, 0, 0), -1);
        due("column -1", x.data(1, -1, 0), -1);
        due("column 4", x.data(1, 4, 0), -1);
        due("-1 before -2", x.data(1, 4, 2), -1);
    }

    private static void told() {
        fresh(19);
        x.tick(5);
        prepare(0, 1, 0, 1, 2, 0, 2);
        steps(0, 1, 1);
        due("last ticket", x.told(0), 1);
        due("LIMIT", x.told(1), 16);
        due("RECORDS", x.told(2), 6);
        due("LINES", x.told(3), 4);
        due("clock", x.told(6), 5);
        due("steps that answered 2", x.told(7), 0);
        steps(0, 2);
        due("last ticket", x.told(0), 2);
        due("RECORDS", x.told(2), 5);
        due("LINES", x.told(3), 6);
        due("steps that answered 2", x.told(7), 1);
        due("CLEANED", x.told(8), 0);
        x.begin(1);
        x.read(1, 2, 0);
        due("CLEANED", x.told(8), 1);
        due("RECORDS", x.told(2), 4);
        due("LINES", x.told(3), 8);
        steps(0, 3);
        due("LINES of a step with nothing to do", x.told(3), 8);
        put(0, 5, 0, 1);
        due("steps that answered 2", x.told(7), 2);
        due("what -1", x.told(-1), -2);
        due("what 9", x.told(9), -2);
        due("what MAX", x.told(MAX), -2);
        due("what MIN", x.told(MIN), -2);
    }

    private static void toldOfTheStore() {
        fresh(19);
        for (int i = 1; i <= 15; i++) {
            put(0, 1, 0, i);
        }
        due("60 LINES", x.told(3), 60);
        due("no RUN", x.told(4), 0);
        prepare(0, 1, 0, 2);
        steps(0, 1);
        due("62 LINES", x.told(3), 62);
        steps(0, 2);
        due("64 LINES are put down", x.told(3), 0);
        due("one RUN", x.told(4), 1);
        putSixteen(0, 30);
        for (int i = 0; i < 15; i++) {
            put(0, 20, 0, i);
        }
        due("two RUNS", x.told(4), 2);
        due("60 LINES", x.told(3), 60);
        prepare(0, 1, 0, 2, 1, 1, 3, 1, 2, 4, 1, 3, 5);
        steps(0, 1);
        due("more than 64 LINES are put down behind the call", x.told(3), 0);
        due("three RUNS", x.told(4), 3);
        due("none became one", x.told(5), 0);
        steps(0, 2);
        due("8 LINES", x.told(3), 8);
        due("RECORDS", x.told(2), 102);
        due("a sweep's LINES", x.sweep(x.told(0)), 60);
        due("68 LINES are put down as one", x.told(3), 0);
        due("four RUNS became one", x.told(4), 1);
        due("once", x.told(5), 1);
        due("fall", x.fall(), 0);
        due("the TABLE stays", x.version(1, 0, 0, 2), 2);
        putSixteen(0, 40);
        putSixteen(0, 50);
        due("three RUNS", x.told(4), 3);
        putSixteen(0, 40);
        due("again", x.told(4), 1);
        due("twice", x.told(5), 2);
        due("LINES", x.told(3), 0);

        fresh(19);
        for (int i = 0; i < 15; i++) {
            put(0, 1, 0, i);
        }
        prepare(0, 1, 0, 2, 2, 0, 3);
        steps(0, 1);
        x.begin(1);
        x.tick(11);
        due("62 LINES", x.told(3), 62);
        due("AGAIN", x.read(1, 1, 0), -5);
        due("a read puts the LOG down, too", x.told(3), 0);
        due("one RUN", x.told(4), 1);

        fresh(19);
        for (int i = 0; i < 15; i++) {
            put(0, 1, 0, i);
        }
        prepare(0, 2, 0, 2);
        steps(0, 1);
        x.begin(1);
        x.tick(11);
        due("AGAIN", x.next(1, 2), -5);
        due("next puts the LOG down, too", x.told(3), 0);
    }
}
