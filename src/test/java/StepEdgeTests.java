/** Each sentence about STEPS, THE STORE and ANSWERS that names an edge, with a test of its own. */
public final class StepEdgeTests {
    public static void main(String[] args) {
        lockingMeetsAWrite();
        lockingMeetsARolledWrite();
        lockingLooksAtItsOwnCells();
        lockingMeetsADecidedLock();
        lockingMeetsALateLock();
        lockingMeetsALockInTime();
        lockingTriesTheRowAgain();
        lockingGoesByColumns();
        lockingPutsAllOfARowOrNothing();
        lockingPutsDataAndLocks();
        decidingGivesATicket();
        decidingWithoutThePrimarysLock();
        decidingWithAnothersLock();
        committedInOneRow();
        committedInMoreRows();
        settlingOfTheLastRow();
        settlingOfCleanedCells();
        settlingLeavesLocksOfOthers();
        undoingFromTheFirstRowOn();
        undoingSkipsRowsWithoutLocks();
        undoingThePrimary();
        undoingBehindACleanedPrimary();
        undoingWithoutAnyLock();
        undoingOf16Rows();
        linesComeAndGo();
        logOf63And64Lines();
        logOfMoreThan64Lines();
        logOfEachCallThatMakesLines();
        threeAndFourRuns();
        fallOfAnEmptyStore();
        fallOfAFullLog();
        fallBehindRuns();
        refusedTransactionCallsChangeNothing();
        refusedCallsOfAllChangeNothing();
        firstThatFits();
        Trial.endAll();
    }

    private static void lockingMeetsAWrite() {
        Trial.of("if a cell has a WRITE (ROLLED, too) whose ticket is not less than START: it is UNDOING, answer 4");
        Trial x = new Trial();
        x.prepare(0, 1, 0, 5);
        x.steps(0, 1);
        x.prepare(1, 1, 0, 6);
        x.steps(0, 2);
        x.prepare(2, 1, 0, 7);
        x.state(1, 1).is(2);
        x.version(1, 0, 0, 0).is(3);
        x.state(2, 1).is(4);
        x.steps(1, 4);
        x.state(1, 0).is(4);
        x.lock(1, 0, 0).is(0);
        x.steps(2, 1);
        x.lock(1, 0, 0).is(4);
        x.steps(2, 2);
        x.version(1, 0, 0, 2).is(7);
    }

    private static void lockingMeetsARolledWrite() {
        Trial.of("a WRITE (ROLLED, too) whose ticket is not less than START");
        Trial x = new Trial();
        x.prepare(0, 1, 0, 5);
        x.putRolled(1, 2, 1, 0);
        x.version(1, 0, 0, 0).is(2);
        x.version(1, 0, 0, 1).is(0);
        x.steps(0, 4, 0);
        x.prepare(3, 1, 0, 6);
        x.steps(3, 1, 2);
    }

    private static void lockingLooksAtItsOwnCells() {
        Trial.of("its next ROW: of its cells there");
        Trial x = new Trial();
        x.prepare(0, 1, 1, 5);
        x.put(1, 1, 0, 6, 1, 2, 6);
        x.prepare(1, 1, 3, 6);
        x.steps(1, 1);
        x.steps(0, 1, 2);
        x.version(1, 1, 0, 2).is(5);
        x.lock(1, 3, 0).is(4);
    }

    private static void lockingMeetsADecidedLock() {
        Trial.of("If it has a LOCK: DECIDED or LATE: CLEANED, answer 5 (DECIDED)");
        Trial x = new Trial();
        x.prepare(0, 1, 0, 5, 2, 0, 6);
        x.steps(0, 1, 1, 2);
        x.prepare(1, 2, 0, 7);
        x.lock(2, 0, 3).is(0);
        x.lock(2, 0, 4).is(1);
        x.steps(1, 5);
        x.state(1, 0).is(2);
        x.state(1, 4).is(0);
        x.version(2, 0, 0, 0).is(2);
        x.told(8).is(1);
        x.steps(1, 1, 2);
    }

    private static void lockingMeetsALateLock() {
        Trial.of("If it has a LOCK: DECIDED or LATE: CLEANED, answer 5 (LATE)");
        Trial x = new Trial();
        x.prepare(0, 1, 0, 5);
        x.steps(0, 1);
        x.tick(11);
        x.prepare(1, 1, 0, 7);
        x.lock(1, 0, 3).is(1);
        x.lock(1, 0, 4).is(0);
        x.steps(1, 5);
        x.lock(1, 0, 0).is(0);
        x.version(1, 0, 0, 1).is(0);
        x.told(8).is(1);
        x.steps(1, 1, 2);
        x.steps(0, 4, 0);
    }

    private static void lockingMeetsALockInTime() {
        Trial.of("else UNDOING, answer 4");
        Trial x = new Trial();
        x.prepare(0, 1, 0, 5);
        x.prepare(1, 1, 0, 6);
        x.steps(1, 1);
        x.prepare(2, 1, 0, 7);
        x.tick(10);
        x.lock(1, 0, 3).is(0);
        x.steps(0, 4, 0);
        x.steps(2, 4, 0);
        x.lock(1, 0, 0).is(2);
        x.told(8).is(0);
        x.steps(1, 2);
    }

    private static void lockingTriesTheRowAgain() {
        Trial.of("(the row is tried again by the next step)");
        Trial x = new Trial();
        x.prepare(0, 1, 0, 5, 1, 1, 6, 1, 2, 7);
        x.steps(0, 1);
        x.crash(0);
        x.tick(11);
        x.prepare(1, 7, 0, 1, 1, 1, 8, 1, 2, 9);
        x.steps(1, 1, 5);
        x.lock(1, 0, 0).is(0);
        x.lock(1, 1, 0).is(1);
        x.state(1, 4).is(1);
        x.steps(1, 5);
        x.lock(1, 1, 0).is(0);
        x.lock(1, 2, 0).is(1);
        x.steps(1, 5);
        x.lock(1, 2, 0).is(0);
        x.state(1, 4).is(1);
        x.steps(1, 1);
        x.lock(1, 1, 0).is(2);
        x.lock(1, 2, 0).is(2);
        x.state(1, 4).is(2);
        x.told(8).is(3);
        x.steps(1, 2, 3);
    }

    private static void lockingGoesByColumns() {
        Trial.of("of its cells there, by columns");
        Trial x = new Trial();
        x.prepare(0, 1, 0, 5);
        x.steps(0, 1);
        x.crash(0);
        x.begin(1);
        x.write(1, 1, 3, 6);
        x.write(1, 1, 0, 6);
        x.commit(1);
        x.put(2, 1, 3, 7);
        x.tick(11);
        x.steps(1, 5, 4, 0);
        x.lock(1, 0, 0).is(0);

        x = new Trial();
        x.prepare(0, 1, 3, 5);
        x.steps(0, 1);
        x.crash(0);
        x.prepare(1, 1, 3, 6, 1, 0, 6);
        x.put(2, 1, 0, 7);
        x.tick(11);
        x.steps(1, 4, 0);
        x.lock(1, 3, 0).is(1);
        x.told(8).is(0);
    }

    private static void lockingPutsAllOfARowOrNothing() {
        Trial.of("If none has: each has DATA of START and a LOCK");
        Trial x = new Trial();
        x.prepare(0, 1, 3, 5);
        x.steps(0, 1);
        x.prepare(1, 1, 0, 6, 1, 1, 6, 1, 2, 6, 1, 3, 6);
        x.steps(1, 4);
        x.told(2).is(3);
        x.told(3).is(2);
        for (int column = 0; column < 3; column++) {
            x.lock(1, column, 0).is(0);
            x.data(1, column, 0).is(0);
        }
        x.steps(1, 0);
        x.told(2).is(3);
    }

    private static void lockingPutsDataAndLocks() {
        Trial.of("each has DATA of START and a LOCK (with the clock), answer 1");
        Trial x = new Trial();
        x.tick(7);
        x.begin(5);
        x.prepare(0, 63, 3, -1, 63, 0, 0, 0, 0, 1);
        x.tick(1);
        x.steps(0, 1);
        for (int column = 0; column < 4; column += 3) {
            x.lock(63, column, 0).is(2);
            x.lock(63, column, 1).is(255);
            x.lock(63, column, 2).is(8);
            x.data(63, column, 0).is(1);
            x.data(63, column, 1).is(2);
            x.versions(63, column).is(0);
        }
        x.lock(63, 1, 0).is(0);
        x.lock(63, 2, 0).is(0);
        x.data(0, 0, 0).is(0);
        x.tick(1);
        x.steps(0, 1);
        x.lock(0, 0, 2).is(9);
        x.lock(63, 0, 2).is(8);
    }

    private static void decidingGivesATicket() {
        Trial.of("If all ROWS have theirs: the oracle gives a ticket k");
        Trial x = new Trial();
        x.prepare(0, 1, 0, 5, 2, 0, 6);
        x.steps(0, 1);
        x.told(0).is(1);
        x.steps(0, 1);
        x.told(0).is(1);
        x.begin(1);
        x.fallOracle().is(17);
        x.steps(0, 2);
        x.told(0).is(17);
        x.told(1).is(32);
        x.state(0, 5).is(17);
        x.version(1, 0, 0, 0).is(17);
        x.steps(0, 3);
        x.version(2, 0, 0, 0).is(17);
        x.told(0).is(17);
    }

    private static void decidingWithoutThePrimarysLock() {
        Trial.of("if the PRIMARY has no LOCK with START: UNDOING, answer 4");
        Trial x = new Trial();
        x.prepare(0, 1, 0, 5, 1, 1, 6);
        x.steps(0, 1);
        x.tick(11);
        x.begin(1);
        x.read(1, 1, 0).is(-5);
        x.steps(0, 4);
        x.told(0).is(3);
        x.told(7).is(0);
        x.state(0, 0).is(4);
        x.state(0, 5).is(0);
        x.lock(1, 1, 0).is(1);
        x.steps(0, 1, 0);
        x.versions(1, 0).is(1);
        x.versions(1, 1).is(0);
        x.told(2).is(1);
    }

    private static void decidingWithAnothersLock() {
        Trial.of("if the PRIMARY has no LOCK with START: one of another START is none");
        Trial x = new Trial();
        x.prepare(0, 1, 0, 5);
        x.steps(0, 1);
        x.tick(11);
        x.prepare(1, 1, 0, 6);
        x.steps(1, 5, 1);
        x.steps(0, 4, 0);
        x.lock(1, 0, 0).is(2);
        x.steps(1, 2);
        x.version(1, 0, 0, 2).is(6);
        x.told(7).is(1);
    }

    private static void committedInOneRow() {
        Trial.of("all its cells in the PRIMARY's row have WRITES k with START, their LOCKS go: it is committed, answer 2; SETTLING if "
            + "it has more ROWS, else it is at its end (one ROW)");
        Trial x = new Trial();
        x.prepare(0, 1, 3, 5, 1, 0, 6, 1, 1, -1, 1, 2, 8);
        x.steps(0, 1, 2);
        for (int column = 0; column < 4; column++) {
            x.lock(1, column, 0).is(0);
            x.versions(1, column).is(1);
            x.version(1, column, 0, 0).is(2);
            x.version(1, column, 0, 1).is(1);
            x.data(1, column, 0).is(1);
        }
        for (int what = 0; what < 6; what++) {
            x.state(0, what).is(0);
        }
        x.step(0).changesNothing(-3);
    }

    private static void committedInMoreRows() {
        Trial.of("SETTLING if it has more ROWS, else it is at its end (two ROWS)");
        Trial x = new Trial();
        x.prepare(0, 9, 3, 5, 1, 0, 6, 9, 0, 7);
        x.steps(0, 1, 1, 2);
        x.state(0, 0).is(3);
        x.version(9, 3, 0, 0).is(2);
        x.version(9, 0, 0, 0).is(2);
        x.lock(9, 0, 0).is(0);
        x.versions(1, 0).is(0);
        x.lock(1, 0, 0).is(1);
        x.steps(0, 3);
    }

    private static void settlingOfTheLastRow() {
        Trial.of("its next ROW (behind the first): .. answer 1; 3 when that was the last ROW: it is at its end");
        Trial x = new Trial();
        x.prepare(0, 1, 0, 5, 2, 0, 6);
        x.steps(0, 1, 1, 2, 3, -3);
        x.prepare(0, 1, 0, 5, 2, 0, 6, 3, 0, 7);
        x.steps(0, 1, 1, 1, 2, 1);
        x.lock(2, 0, 0).is(0);
        x.lock(3, 0, 0).is(3);
        x.steps(0, 3, -3);
        x.lock(3, 0, 0).is(0);
        x.version(3, 0, 0, 0).is(4);
        x.state(0, 0).is(0);
    }

    private static void settlingOfCleanedCells() {
        Trial.of("each of its cells there that has a LOCK with START has a WRITE k with START");
        Trial x = new Trial();
        x.prepare(0, 1, 0, 5, 2, 0, 6, 2, 1, 7, 3, 0, 8);
        x.steps(0, 1, 1, 1, 2);
        x.begin(1);
        x.read(1, 2, 0).is(-5);
        x.read(1, 3, 0).is(-5);
        x.told(3).is(14);
        x.steps(0, 1);
        x.told(3).is(16);
        x.versions(2, 0).is(1);
        x.version(2, 1, 0, 0).is(2);
        x.steps(0, 3);
        x.told(3).is(16);
        x.versions(3, 0).is(1);
        x.told(2).is(8);
    }

    private static void settlingLeavesLocksOfOthers() {
        Trial.of("that has a LOCK with START: not one of another START");
        Trial x = new Trial();
        x.prepare(0, 1, 0, 5, 2, 0, 6);
        x.steps(0, 1, 1, 2);
        x.prepare(1, 2, 0, 7);
        x.steps(1, 5, 1);
        x.steps(0, 3);
        x.lock(2, 0, 0).is(3);
        x.versions(2, 0).is(1);
        x.steps(1, 2);
        x.version(2, 0, 0, 2).is(7);
        x.version(2, 0, 1, 2).is(6);
    }

    private static void undoingFromTheFirstRowOn() {
        Trial.of("its next ROW, from the first one on, in which one of its cells has a LOCK with START: these LOCKS go, and the DATA "
            + "of START there");
        Trial x = new Trial();
        x.put(7, 2, 1, 4);
        x.prepare(1, 3, 0, 1);
        x.steps(1, 1);
        x.prepare(0, 9, 0, 5, 2, 1, 6, 2, 3, 7, 3, 0, 8);
        x.steps(0, 1, 1, 4);
        x.told(2).is(14);
        x.steps(0, 1);
        x.lock(9, 0, 0).is(0);
        x.data(9, 0, 0).is(0);
        x.lock(2, 1, 0).is(4);
        x.steps(0, 1);
        x.lock(2, 1, 0).is(0);
        x.lock(2, 3, 0).is(0);
        x.data(2, 1, 0).is(1);
        x.data(2, 1, 1).is(1);
        x.data(2, 3, 0).is(0);
        x.versions(2, 1).is(1);
        x.versions(2, 3).is(0);
        x.steps(0, 0, -3);
        x.lock(3, 0, 0).is(3);
        x.told(2).is(6);
    }

    private static void undoingSkipsRowsWithoutLocks() {
        Trial.of("its next ROW .. in which one of its cells has a LOCK with START");
        Trial x = new Trial();
        x.prepare(1, 4, 0, 1);
        x.steps(1, 1);
        x.prepare(0, 1, 0, 5, 2, 0, 6, 3, 0, 7, 4, 0, 8);
        x.steps(0, 1, 1, 1, 4);
        x.tick(11);
        x.begin(2);
        x.read(2, 2, 0).is(-5);
        x.lock(1, 0, 0).is(0);
        x.read(2, 2, 0).is(-5);
        x.lock(2, 0, 0).is(0);
        x.steps(0, 1);
        x.lock(3, 0, 0).is(0);
        x.steps(0, 0, -3);
    }

    private static void undoingThePrimary() {
        Trial.of("the PRIMARY, if its LOCK goes so, has a WRITE START, ROLLED: answer 1");
        Trial x = new Trial();
        x.prepare(1, 2, 0, 1);
        x.steps(1, 1);
        x.prepare(0, 1, 2, 5, 1, 0, 6, 1, 3, 6, 2, 0, 7);
        x.steps(0, 1, 4, 1);
        x.versions(1, 2).is(1);
        x.version(1, 2, 0, 0).is(2);
        x.version(1, 2, 0, 1).is(0);
        x.version(1, 2, 0, 2).is(0);
        x.versions(1, 0).is(0);
        x.versions(1, 3).is(0);
        x.told(2).is(4);
        x.steps(0, 0);
    }

    private static void undoingBehindACleanedPrimary() {
        Trial.of("the PRIMARY, if its LOCK goes so: not if others cleaned it");
        Trial x = new Trial();
        x.prepare(1, 2, 0, 1);
        x.steps(1, 1);
        x.prepare(0, 1, 2, 5, 1, 0, 6, 2, 0, 7);
        x.steps(0, 1, 4);
        x.tick(11);
        x.begin(2);
        x.read(2, 1, 2).is(-5);
        x.versions(1, 2).is(1);
        x.steps(0, 1);
        x.versions(1, 2).is(1);
        x.lock(1, 0, 0).is(0);
        x.steps(0, 0);
        x.told(8).is(1);
    }

    private static void undoingWithoutAnyLock() {
        Trial.of("If there is none: 0, it is at its end.");
        Trial x = new Trial();
        x.prepare(0, 1, 0, 5, 2, 0, 6);
        x.put(1, 1, 0, 7);
        x.steps(0, 4);
        x.told(3).is(4);
        x.steps(0, 0);
        x.state(0, 0).is(0);
        x.told(3).is(4);
        x.versions(1, 0).is(1);
        x.step(0).changesNothing(-3);
        x.begin(0).is(4);
    }

    private static void undoingOf16Rows() {
        Trial.of("its next ROW, from the first one on: also of as many ROWS as there can be");
        Trial x = new Trial();
        x.prepare(0, 1, 0, 5);
        x.steps(0, 1);
        x.begin(1);
        for (int i = 0; i < 16; i++) {
            x.write(1, 63 - i, i % 4, i);
        }
        x.commit(1);
        x.steps(1, 1, 1, 1, 1, 1, 1, 1, 1, 1, 1, 1, 1, 1, 1, 1, 1);
        x.tick(11);
        x.begin(2);
        x.read(2, 63, 0).is(-5);
        x.steps(1, 4);
        for (int i = 1; i < 16; i++) {
            x.lock(63 - i, i % 4, 0).is(2);
            x.steps(1, 1);
            x.lock(63 - i, i % 4, 0).is(0);
        }
        x.state(1, 0).is(4);
        x.steps(1, 0, -3);
        x.lock(1, 0, 0).is(1);
        x.told(2).is(4);
    }

    private static void linesComeAndGo() {
        Trial.of("A LINE of the LOG is each DATA, LOCK or WRITE that comes to the TABLE, and each that goes.");
        Trial x = new Trial();
        x.told(3).is(0);
        x.prepare(0, 1, 0, 5, 1, 1, 6, 2, 0, 7);
        x.told(3).is(0);
        x.steps(0, 1);
        x.told(3).is(4);
        x.steps(0, 1);
        x.told(3).is(6);
        x.steps(0, 2);
        x.told(3).is(10);
        x.steps(0, 3);
        x.told(3).is(12);
        x.put(0, 1, 0, 8);
        x.told(3).is(16);
        x.sweep(4).is(2);
        x.told(3).is(18);
        x.prepare(1, 4, 0, 5, 5, 0, 6);
        x.steps(1, 1, 1);
        x.told(3).is(22);
        x.tick(11);
        x.begin(2);
        x.read(2, 4, 0).is(-5);
        x.told(3).is(25);
        x.read(2, 5, 0).is(-5);
        x.told(3).is(27);
        x.sweep(5).is(1);
        x.told(3).is(28);
        x.steps(1, 4, 0);
        x.told(3).is(28);
        x.prepare(3, 6, 0, 1, 7, 0, 2);
        x.steps(3, 1, 1, 2);
        x.told(3).is(34);
        x.begin(4);
        x.read(4, 7, 0).is(-5);
        x.told(3).is(36);
    }

    /** 63 LINES, the last 58 of them out of whole transactions and one row that has its LOCK. */
    private static Trial withLinesUpTo63() {
        Trial x = new Trial();
        x.putRolled(0, 1, 1, 0);
        for (int i = 0; i < 14; i++) {
            x.put(0, 2 + i, 0, i);
        }
        x.told(3).is(61);
        x.prepare(0, 20, 0, 5);
        x.steps(0, 1);
        return x;
    }

    private static void logOf63And64Lines() {
        Trial.of("if the LOG has 64 or more, they are put down as a RUN, and the LOG is empty");
        Trial x = withLinesUpTo63();
        x.told(3).is(63);
        x.told(4).is(0);
        x.fall().is(63);
        x.steps(0, 2);
        x.told(3).is(0);
        x.told(4).is(1);

        x = new Trial();
        for (int i = 0; i < 15; i++) {
            x.put(0, i, 0, i);
        }
        x.prepare(0, 20, 0, 5);
        x.steps(0, 1);
        x.told(3).is(62);
        x.told(4).is(0);
        x.steps(0, 2);
        x.told(3).is(0);
        x.told(4).is(1);
        x.told(5).is(0);
        x.put(0, 21, 0, 5);
        x.told(3).is(4);
        x.told(4).is(1);
    }

    private static void logOfMoreThan64Lines() {
        Trial.of("Behind a call that made lines");
        Trial x = withLinesUpTo63();
        x.prepare(1, 30, 0, 1, 30, 1, 2, 30, 2, 3, 30, 3, 4);
        x.steps(1, 1);
        x.told(3).is(0);
        x.told(4).is(1);
        x.steps(1, 2);
        x.told(3).is(8);

        x = new Trial();
        for (int i = 0; i < 40; i++) {
            x.put(0, 1, 0, i);
        }
        x.told(3).is(32);
        x.told(4).is(2);
        x.sweep(80).is(78);
        x.told(3).is(0);
        x.told(4).is(3);
    }

    private static void logOfEachCallThatMakesLines() {
        Trial.of("Behind a call that made lines: read, next, step and sweep can");
        for (int kind = 0; kind < 4; kind++) {
            Trial x = withLinesUpTo63();
            x.tick(11);
            x.prepare(1, 20, 0, 6);
            x.begin(2);
            if (kind == 0) {
                x.read(2, 20, 0).is(-5);
            } else if (kind == 1) {
                x.next(2, 20).is(-5);
            } else if (kind == 2) {
                x.steps(1, 5);
            } else {
                x.sweep(1).is(1);
            }
            x.told(3).is(0);
            x.told(4).is(1);
        }
    }

    private static void threeAndFourRuns() {
        Trial.of("if there are 4 RUNS then, they become one");
        Trial x = new Trial();
        int[][] runsAndTimes = {{1, 0}, {2, 0}, {3, 0}, {1, 1}, {2, 1}, {3, 1}, {1, 2}, {2, 2}};
        for (int i = 0; i < runsAndTimes.length; i++) {
            x.putFourRows(i, 4 * i);
            x.told(3).is(0);
            x.told(4).is(runsAndTimes[i][0]);
            x.told(5).is(runsAndTimes[i][1]);
        }
    }

    private static void fallOfAnEmptyStore() {
        Trial.of("When the store falls, all is had again out of RUNS and the LOG: the TABLE stays as it was. (empty)");
        Trial x = new Trial();
        x.fall().changesNothing(0);
        x.begin(0).is(1);
        x.fall().changesNothing(0);
    }

    private static void fallOfAFullLog() {
        Trial.of("When the store falls, all is had again out of RUNS and the LOG: the TABLE stays as it was. (LOG)");
        Trial x = withLinesUpTo63();
        x.fall().changesNothing(63);
        x.steps(0, 2);
        x.fall().changesNothing(0);
        x.begin(0);
        x.read(0, 20, 0).is(5);
        x.read(0, 15, 0).is(13);
    }

    private static void fallBehindRuns() {
        Trial.of("When the store falls, all is had again out of RUNS and the LOG: the TABLE stays as it was. (RUNS)");
        Trial x = new Trial();
        for (int i = 0; i < 5; i++) {
            x.putFourRows(i, 4 * i);
        }
        x.prepare(0, 40, 0, 5, 41, 0, 6);
        x.steps(0, 1, 1, 2);
        x.prepare(1, 42, 0, 5);
        x.steps(1, 1);
        x.fall().changesNothing(8);
        x.steps(0, 3);
        x.steps(1, 2);
        x.fall().changesNothing(12);
        x.begin(2);
        x.read(2, 0, 3).is(3);
        x.read(2, 19, 3).is(15);
        x.read(2, 41, 0).is(6);
    }

    /** Clients 0 to 4 have STATES 0 to 4, client 5 all 16 own writes; all LAST are the clock. */
    private static Trial withEachState() {
        Trial x = new Trial();
        x.tick(3);
        x.begin(1);
        x.write(1, 1, 0, 11);
        x.prepare(2, 2, 0, 21, 22, 0, 22);
        x.steps(2, 1);
        x.prepare(3, 3, 0, 31, 33, 0, 32, 34, 0, 33);
        x.steps(3, 1, 1, 1, 2);
        x.prepare(4, 4, 0, 41, 2, 0, 42);
        x.steps(4, 1, 4);
        x.begin(5);
        for (int i = 0; i < 16; i++) {
            x.write(5, 45 + i, i % 4, i).is(i + 1);
        }
        for (int client = 0; client < 5; client++) {
            x.state(client, 0).is(client);
        }
        return x;
    }

    private static void refusedTransactionCallsChangeNothing() {
        Trial.of("ANSWERS below 0 are refusals and change nothing (but LAST): -3, -4 and -7 of a client");
        Trial x = withEachState();
        for (int client = 0; client < 5; client++) {
            if (client != 0) {
                x.begin(client).changesNothing(-3);
            }
            if (client != 1) {
                x.read(client, 1, 0).changesNothing(-3);
                x.next(client, 0).changesNothing(-3);
                x.write(client, 1, 0, 7).changesNothing(-3);
                x.commit(client).changesNothing(-3);
            }
            x.write(client, 1, 0, -2).changesNothing(-2);
        }
        x.step(0).changesNothing(-3);
        x.step(1).changesNothing(-3);
        x.read(1, 50, 0).changesNothing(-7);
        x.next(1, 50).changesNothing(-7);
        x.read(5, 2, 0).changesNothing(-6);
        x.next(5, 1).changesNothing(-6);
        x.write(5, 1, 0, 7).changesNothing(-4);
    }

    private static void refusedCallsOfAllChangeNothing() {
        Trial.of("ANSWERS below 0 are refusals and change nothing (but LAST): calls of no client");
        Trial x = withEachState();
        x.tick(-1).changesNothing(-2);
        x.tick(100001).changesNothing(-2);
        x.timeout(-1).changesNothing(-2);
        x.timeout(100001).changesNothing(-2);
        x.sweep(-1).changesNothing(-2);
        x.sweep(7).changesNothing(-2);
        x.sweep(6).changesNothing(-3);
        x.sweep(2).changesNothing(-3);
        x.state(0, 6).changesNothing(-2);
        x.lock(0, 0, 5).changesNothing(-2);
        x.version(3, 0, 0, 3).changesNothing(-2);
        x.version(3, 0, 1, 0).changesNothing(-1);
        x.data(0, 0, 2).changesNothing(-2);
        x.told(9).changesNothing(-2);
    }

    private static void firstThatFits() {
        Trial.of("-1 there is no such client, row or column, -2 outside the range, -3 not in this state, -4 no room, -7 nothing; the "
            + "first that fits");
        Trial x = withEachState();
        x.read(0, 64, 0).is(-1);
        x.read(8, 0, 0).is(-1);
        x.next(0, -1).is(-1);
        x.write(0, 0, 4, -2).is(-1);
        x.write(8, 0, 0, -2).is(-1);
        x.write(0, 0, 0, -2).is(-2);
        x.write(2, 0, 0, -2).is(-2);
        x.write(5, 0, 0, -2).is(-2);
        x.write(5, 0, 0, -1).is(-4);
        x.commit(5);
        x.write(5, 0, 0, 1).is(-3);
        x.sweep(100).is(-2);
        x.sweep(-1).is(-2);
        x.state(8, 6).is(-1);
        x.lock(64, 0, 5).is(-1);
        x.lock(0, 4, -1).is(-1);
        x.version(64, 0, 0, 3).is(-1);
        x.version(3, 0, 1, 3).is(-1);
        x.version(3, 0, 0, 3).is(-2);
        x.data(64, 0, 2).is(-1);
        x.data(0, -1, -1).is(-1);
    }
}
