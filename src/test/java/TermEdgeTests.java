/** Each sentence of the document's terms that names an edge, up to the STEPS, with a test of its own. */
public final class TermEdgeTests {
    private static final int MAX = Integer.MAX_VALUE;
    private static final int MIN = Integer.MIN_VALUE;

    public static void main(String[] args) {
        upTo512Calls();
        clockAtFirst();
        firstTickets();
        limitOfBegins();
        limitOfSteps();
        nextTicketBehindAFall();
        rowsOfTheTable();
        columnsOfTheTable();
        rowAndColumnAreLookedAtEach();
        values();
        atMostOneLock();
        recordsOfEachKind();
        clients();
        oneTransactionOfAClient();
        atMost16OwnWrites();
        orderOfOwnWrites();
        lastOfCallsThatAreDone();
        lastOfRefusedCalls();
        lastNotOfRefusalsByMinus1();
        lastNotOfOtherCalls();
        states();
        orderOfRows();
        lateByLast();
        lateByTime();
        lateOfAnotherTransaction();
        lateWithTheLeastAndGreatestTimeout();
        decided();
        cleaningOfThePrimaryItself();
        cleaningWhileThePrimaryIsLocked();
        cleaningOfACommittedOne();
        cleaningOfACommittedOneUnderLaterOnes();
        cleaningOfAnUndoneOne();
        cleaningBehindASweepOfThePrimary();
        barsByStart();
        againOrWait();
        nextByRowsAndColumns();
        seenOwnWrite();
        seenByTickets();
        seenNotRolled();
        seenNothing();
        ownWriteIsNotBarred();
        Trial.endAll();
    }

    private static void upTo512Calls() {
        Trial.of("An object is used for at most 512 calls after it has been made");
        Trial x = new Trial();
        for (int i = 0; i < 102; i++) {
            x.begin(i % 8).is(2 * i + 1);
            x.write(i % 8, i % 64, i % 4, i).is(1);
            x.commit(i % 8).is(1);
            x.step(i % 8).is(1);
            x.step(i % 8).is(2);
        }
        x.begin(0).is(205);
        x.read(0, 37, 1).is(101);
    }

    private static void clockAtFirst() {
        Trial.of("THE CLOCK is at 0 at first.");
        Trial x = new Trial();
        x.told(6).is(0);
        x.tick(0).is(0);
    }

    private static void firstTickets() {
        Trial.of("THE ORACLE gives TICKETS: 1, 2, ..");
        Trial x = new Trial();
        x.told(0).is(0);
        x.begin(0).is(1);
        x.begin(1).is(2);
        x.write(0, 1, 0, 5);
        x.commit(0);
        x.steps(0, 1);
        x.told(0).is(2);
        x.steps(0, 2);
        x.version(1, 0, 0, 0).is(3);
        x.begin(0).is(4);
        x.told(0).is(4);
    }

    private static void limitOfBegins() {
        Trial.of("it has a LIMIT, 0 at first: when a ticket above it is to be given, the LIMIT is put 16 further before");
        Trial x = new Trial();
        x.told(1).is(0);
        for (int ticket = 1; ticket <= 33; ticket++) {
            x.begin(0).is(ticket);
            x.told(1).is(ticket <= 16 ? 16 : ticket <= 32 ? 32 : 48);
            x.crash(0);
        }
    }

    private static void limitOfSteps() {
        Trial.of("when a ticket above it is to be given, the LIMIT is put 16 further before (a commit's ticket)");
        Trial x = new Trial();
        for (int ticket = 1; ticket <= 15; ticket++) {
            x.begin(0).is(ticket);
            x.crash(0);
        }
        x.prepare(0, 1, 0, 5);
        x.steps(0, 1);
        x.told(0).is(16);
        x.told(1).is(16);
        x.steps(0, 2);
        x.told(0).is(17);
        x.told(1).is(32);
    }

    private static void nextTicketBehindAFall() {
        Trial.of("When the oracle falls, the next ticket is 1 more than the LIMIT was.");
        Trial x = new Trial();
        x.fallOracle().is(1);
        x.begin(0).is(1);
        x.fallOracle().is(17);
        x.told(1).is(16);
        x.fallOracle().is(17);
        x.begin(1).is(17);
        x.told(1).is(32);
        for (int ticket = 18; ticket <= 32; ticket++) {
            x.begin(2).is(ticket);
            x.crash(2);
        }
        x.told(1).is(32);
        x.fallOracle().is(33);
        x.told(1).is(32);
        x.begin(2).is(33);
        x.told(1).is(48);
    }

    /** All that take a row and a column, and next(), which takes a row alone. */
    private static void areNoSuchCells(Trial x, int row, int column) {
        x.read(1, row, column).changesNothing(-1);
        x.write(1, row, column, 7).changesNothing(-1);
        x.lock(row, column, 0).changesNothing(-1);
        x.versions(row, column).changesNothing(-1);
        x.version(row, column, 0, 0).changesNothing(-1);
        x.data(row, column, 0).changesNothing(-1);
    }

    private static Trial fourCornersAreFull() {
        Trial x = new Trial();
        x.put(0, 0, 0, 1, 0, 3, 2);
        x.put(0, 63, 0, 3, 63, 3, 4);
        x.begin(1);
        return x;
    }

    private static void rowsOfTheTable() {
        Trial.of("THE TABLE has ROWS 0 .. 63");
        Trial x = fourCornersAreFull();
        for (int row : new int[] {-1, 64, MIN, MAX, 1 << 30, -(1 << 30)}) {
            areNoSuchCells(x, row, 0);
            x.next(1, row).changesNothing(-1);
        }
        x.read(1, 0, 0).is(1);
        x.read(1, 63, 0).is(3);
        x.next(1, 0).is(0);
        x.next(1, 63).is(63);
        x.versions(63, 3).is(1);
        x.version(63, 3, 0, 2).is(4);
        x.data(63, 3, 0).is(1);
        x.lock(63, 3, 0).is(0);
        x.write(1, 63, 1, 7).is(1);
    }

    private static void columnsOfTheTable() {
        Trial.of("THE TABLE has .. four COLUMNS");
        Trial x = fourCornersAreFull();
        for (int column : new int[] {-1, 4, MIN, MAX}) {
            areNoSuchCells(x, 0, column);
            areNoSuchCells(x, 63, column);
        }
        x.read(1, 0, 3).is(2);
        x.versions(0, 3).is(1);
        x.version(0, 3, 0, 2).is(2);
        x.data(0, 3, 0).is(1);
        x.lock(0, 3, 0).is(0);
        x.write(1, 1, 3, 7).is(1);
    }

    private static void rowAndColumnAreLookedAtEach() {
        Trial.of("a CELL is one of them in one row");
        Trial x = fourCornersAreFull();
        areNoSuchCells(x, -1, 4);
        areNoSuchCells(x, 64, -1);
        areNoSuchCells(x, 1, -1);
        areNoSuchCells(x, 62, 4);
    }

    private static void values() {
        Trial.of("a value (0 .. 2^31 - 1), or that it is DELETED");
        Trial x = new Trial();
        x.put(0, 1, 0, 0, 1, 1, MAX, 1, 2, -1, 1, 3, MAX - 1);
        x.begin(0);
        x.read(0, 1, 0).is(0);
        x.read(0, 1, 1).is(MAX);
        x.read(0, 1, 2).is(-7);
        x.read(0, 1, 3).is(MAX - 1);
        x.version(1, 0, 0, 2).is(0);
        x.version(1, 1, 0, 2).is(MAX);
        x.version(1, 2, 0, 2).is(-1);
        x.version(1, 3, 0, 2).is(MAX - 1);
    }

    private static void atMostOneLock() {
        Trial.of("at most one LOCK: a START, a PRIMARY cell, and the TIME when it was put");
        Trial x = new Trial();
        x.tick(3);
        x.prepare(0, 9, 3, 5);
        x.prepare(1, 8, 1, 6, 9, 3, 7);
        x.steps(0, 1);
        x.tick(1);
        x.steps(1, 1, 4);
        x.lock(9, 3, 0).is(1);
        x.lock(9, 3, 1).is(39);
        x.lock(9, 3, 2).is(3);
        x.lock(8, 1, 0).is(2);
        x.lock(8, 1, 1).is(33);
        x.lock(8, 1, 2).is(4);
        x.data(9, 3, 0).is(1);
    }

    private static void recordsOfEachKind() {
        Trial.of("each DATA and WRITE counts 1, each LOCK 2");
        Trial x = new Trial();
        x.told(2).is(0);
        x.prepare(0, 1, 0, 5, 1, 1, -1, 2, 0, 6);
        x.told(2).is(0);
        x.steps(0, 1);
        x.told(2).is(6);
        x.steps(0, 1);
        x.told(2).is(9);
        x.steps(0, 2);
        x.told(2).is(7);
        x.steps(0, 3);
        x.told(2).is(6);
        x.putRolled(0, 1, 3, 0);
        x.told(2).is(7);
    }

    private static void clients() {
        Trial.of("CLIENTS 0 .. 7 have a transaction or none.");
        Trial x = new Trial();
        for (int client = 0; client < 8; client++) {
            x.state(client, 0).is(0);
            x.begin(client).is(client + 1);
        }
        for (int client : new int[] {-1, 8, MIN, MAX}) {
            x.begin(client).changesNothing(-1);
            x.read(client, 0, 0).changesNothing(-1);
            x.next(client, 0).changesNothing(-1);
            x.write(client, 0, 0, 1).changesNothing(-1);
            x.commit(client).changesNothing(-1);
            x.step(client).changesNothing(-1);
            x.crash(client).changesNothing(-1);
            x.state(client, 0).changesNothing(-1);
        }
        for (int client = 0; client < 8; client++) {
            x.write(client, client, 0, client).is(1);
            x.commit(client).is(1);
            x.steps(client, 1, 2);
            x.version(client, 0, 0, 1).is(client + 1);
            x.state(client, 0).is(0);
        }
    }

    private static void oneTransactionOfAClient() {
        Trial.of("CLIENTS 0 .. 7 have a transaction or none: what one has is no other's");
        Trial x = new Trial();
        x.begin(0);
        x.tick(2);
        x.begin(7);
        x.write(0, 1, 0, 5).is(1);
        x.read(7, 1, 0).is(-7);
        x.state(7, 3).is(0);
        x.crash(7).is(1);
        x.state(0, 0).is(1);
        x.read(0, 1, 0).is(5);
        x.begin(7).is(3);
        x.state(7, 3).is(0);
    }

    private static void atMost16OwnWrites() {
        Trial.of("its own writes (at most 16 cells");
        Trial x = new Trial();
        x.begin(0);
        for (int i = 0; i < 16; i++) {
            x.write(0, 3 * i, i % 4, i).is(i + 1);
        }
        x.write(0, 63, 0, 1).changesNothing(-4);
        x.write(0, 0, 1, -1).changesNothing(-4);
        x.write(0, 45, 3, 77).is(16);
        x.write(0, 0, 0, -1).is(16);
        x.read(0, 45, 3).is(77);
        x.commit(0).is(1);
        x.steps(0, 1, 1, 1, 1, 1, 1, 1, 1, 1, 1, 1, 1, 1, 1, 1, 1, 2);
        x.steps(0, 1, 1, 1, 1, 1, 1, 1, 1, 1, 1, 1, 1, 1, 1, 3);
        x.version(45, 3, 0, 2).is(77);
        x.version(0, 0, 0, 2).is(-1);
        x.versions(63, 0).is(0);
        x.told(2).is(32);
    }

    private static void orderOfOwnWrites() {
        Trial.of("in the order in which each was written first; the PRIMARY is the first one");
        Trial x = new Trial();
        x.begin(0);
        x.write(0, 20, 2, 5).is(1);
        x.write(0, 20, 0, 6).is(2);
        x.write(0, 3, 0, 7).is(3);
        x.write(0, 20, 2, -1).is(3);
        x.commit(0);
        x.steps(0, 1, 1);
        x.lock(20, 2, 1).is(82);
        x.lock(20, 0, 1).is(82);
        x.lock(3, 0, 1).is(82);
    }

    private static void goesOnAt(Trial x, int client, int want) {
        x.state(client, 2).is(want);
        x.tick(1);
    }

    private static void lastOfCallsThatAreDone() {
        Trial.of("LAST (the clock at the last call of it: begin, read, next, write, commit, step");
        Trial x = new Trial();
        x.state(0, 2).is(0);
        x.tick(1);
        x.begin(0).is(1);
        goesOnAt(x, 0, 1);
        x.write(0, 1, 0, 5).is(1);
        goesOnAt(x, 0, 2);
        x.read(0, 1, 0).is(5);
        goesOnAt(x, 0, 3);
        x.next(0, 0).is(1);
        goesOnAt(x, 0, 4);
        x.write(0, 2, 0, 5).is(2);
        x.commit(0).is(1);
        goesOnAt(x, 0, 5);
        x.step(0).is(1);
        goesOnAt(x, 0, 6);
        x.step(0).is(1);
        goesOnAt(x, 0, 7);
        x.step(0).is(2);
        goesOnAt(x, 0, 8);
        x.step(0).is(3);
        x.state(0, 2).is(0);
    }

    private static void lastOfRefusedCalls() {
        Trial.of("LAST (.. also one that is refused");
        Trial x = new Trial();
        x.begin(0);
        x.tick(1);
        x.begin(0).is(-3);
        goesOnAt(x, 0, 1);
        x.read(0, 1, 0).is(-7);
        goesOnAt(x, 0, 2);
        x.next(0, 0).is(-7);
        goesOnAt(x, 0, 3);
        x.write(0, 1, 0, -2).is(-2);
        goesOnAt(x, 0, 4);
        x.step(0).is(-3);
        goesOnAt(x, 0, 5);
        for (int i = 0; i < 16; i++) {
            x.write(0, 30 + i, 0, i).is(i + 1);
        }
        goesOnAt(x, 0, 6);
        x.write(0, 1, 0, 5).is(-4);
        goesOnAt(x, 0, 7);
        x.commit(0).is(1);
        goesOnAt(x, 0, 8);
        x.commit(0).is(-3);
        goesOnAt(x, 0, 9);
        x.read(0, 1, 0).is(-3);
        goesOnAt(x, 0, 10);
        x.next(0, 1).is(-3);
        goesOnAt(x, 0, 11);
        x.write(0, 1, 0, 5).is(-3);
        goesOnAt(x, 0, 12);
        x.write(0, 1, 0, -2).is(-2);
        goesOnAt(x, 0, 13);
        x.begin(0).is(-3);
        goesOnAt(x, 0, 14);

        x = new Trial();
        x.prepare(0, 1, 0, 5, 2, 0, 6);
        x.steps(0, 1, 1);
        x.begin(1);
        x.tick(1);
        x.read(1, 2, 0).is(-6);
        goesOnAt(x, 1, 1);
        x.next(1, 1).is(-6);
        goesOnAt(x, 1, 2);
        x.steps(0, 2);
        x.read(1, 2, 0).is(-5);
        goesOnAt(x, 1, 3);
        x.prepare(2, 3, 0, 5);
        x.steps(2, 1);
        x.crash(2);
        x.begin(3);
        x.tick(11);
        x.next(3, 3).is(-5);
        x.state(3, 2).is(15);
        x.read(4, 1, 0).is(-3);
        x.step(4).is(-3);
        x.state(4, 2).is(0);
    }

    private static void lastNotOfRefusalsByMinus1() {
        Trial.of("LAST (.. but by -1)");
        Trial x = new Trial();
        x.tick(2);
        x.begin(0);
        x.tick(1);
        x.read(0, 64, 0).changesNothing(-1);
        x.read(0, 0, 4).changesNothing(-1);
        x.next(0, -1).changesNothing(-1);
        x.next(0, 64).changesNothing(-1);
        x.write(0, -1, 0, 1).changesNothing(-1);
        x.write(0, 0, -1, 1).changesNothing(-1);
        x.write(0, 64, 0, -2).changesNothing(-1);
        x.state(0, 2).is(2);
    }

    private static void lastNotOfOtherCalls() {
        Trial.of("LAST (the clock at the last call of it: begin, read, next, write, commit, step: no other call)");
        Trial x = new Trial();
        x.begin(0);
        x.tick(5);
        x.timeout(10);
        x.fallOracle();
        x.fall();
        x.sweep(0).is(0);
        x.sweep(1).is(0);
        x.state(0, 0).is(1);
        x.lock(0, 0, 0).is(0);
        x.versions(0, 0).is(0);
        x.version(0, 0, 0, 0).is(-1);
        x.data(0, 0, 0).is(0);
        x.told(6).is(5);
        x.begin(1);
        x.read(1, 0, 0).is(-7);
        x.crash(1);
        x.state(0, 2).is(0);
    }

    private static void states() {
        Trial.of("a STATE: 1 OPEN, 2 LOCKING, 3 SETTLING, 4 UNDOING; 0 when there is none");
        Trial x = new Trial();
        x.state(0, 0).is(0);
        x.begin(0);
        x.state(0, 0).is(1);
        x.write(0, 1, 0, 5);
        x.write(0, 2, 0, 5);
        x.state(0, 0).is(1);
        x.commit(0);
        x.state(0, 0).is(2);
        x.steps(0, 1, 1);
        x.state(0, 0).is(2);
        x.prepare(1, 2, 0, 6);
        x.steps(1, 4);
        x.state(1, 0).is(4);
        x.steps(0, 2);
        x.state(0, 0).is(3);
        x.steps(0, 3);
        x.state(0, 0).is(0);
        x.steps(1, 0);
        x.state(1, 0).is(0);
    }

    private static void orderOfRows() {
        Trial.of("Its ROWS are those of its own writes, in the order in which each came first.");
        Trial x = new Trial();
        x.begin(0);
        x.write(0, 7, 3, 1);
        x.write(0, 2, 0, 2);
        x.write(0, 7, 1, 3);
        x.write(0, 5, 0, 4);
        x.write(0, 2, 2, 5);
        x.commit(0);
        x.steps(0, 1);
        x.lock(7, 1, 0).is(1);
        x.lock(7, 3, 0).is(1);
        x.lock(2, 0, 0).is(0);
        x.steps(0, 1);
        x.lock(2, 0, 0).is(1);
        x.lock(2, 2, 0).is(1);
        x.lock(5, 0, 0).is(0);
        x.steps(0, 1);
        x.lock(5, 0, 0).is(1);
        x.steps(0, 2, 1);
        x.lock(2, 2, 0).is(0);
        x.lock(5, 0, 0).is(1);
        x.steps(0, 3, -3);
    }

    private static void lateByLast() {
        Trial.of("LATE is a LOCK when the clock less LAST is more than the TIMEOUT (10 at first), if a client has a transaction "
            + "with that START");
        Trial x = new Trial();
        x.prepare(0, 1, 0, 5, 2, 0, 6);
        x.steps(0, 1);
        x.tick(4);
        x.steps(0, 1);
        x.tick(10).is(14);
        x.lock(1, 0, 3).is(0);
        x.lock(2, 0, 3).is(0);
        x.begin(1);
        x.read(1, 1, 0).changesNothing(-6);
        x.prepare(2, 1, 0, 7);
        x.steps(2, 4);
        x.tick(1).is(15);
        x.lock(1, 0, 3).is(1);
        x.lock(2, 0, 3).is(1);
        x.commit(0).is(-3);
        x.lock(1, 0, 3).is(0);
        x.read(1, 1, 0).is(-6);
        x.tick(11);
        x.prepare(3, 2, 0, 7);
        x.steps(3, 5);
    }

    private static void lateByTime() {
        Trial.of("else when the clock less its TIME is");
        Trial x = new Trial();
        x.prepare(0, 1, 0, 5, 2, 0, 6);
        x.steps(0, 1);
        x.tick(4);
        x.steps(0, 1);
        x.crash(0);
        x.tick(6).is(10);
        x.lock(1, 0, 3).is(0);
        x.tick(1).is(11);
        x.lock(1, 0, 3).is(1);
        x.lock(2, 0, 3).is(0);
        x.tick(3).is(14);
        x.begin(1);
        x.read(1, 2, 0).changesNothing(-6);
        x.tick(1).is(15);
        x.lock(2, 0, 3).is(1);
        x.read(1, 2, 0).is(-5);
    }

    private static void lateOfAnotherTransaction() {
        Trial.of("if a client has a transaction with that START: not one with another");
        Trial x = new Trial();
        x.prepare(0, 1, 0, 5);
        x.steps(0, 1);
        x.crash(0);
        x.tick(11);
        x.begin(0);
        x.lock(1, 0, 3).is(1);
        x.read(0, 1, 0).is(-5);
    }

    private static void lateWithTheLeastAndGreatestTimeout() {
        Trial.of("is more than the TIMEOUT");
        Trial x = new Trial();
        x.timeout(0);
        x.prepare(0, 1, 0, 5);
        x.steps(0, 1);
        x.lock(1, 0, 3).is(0);
        x.tick(1);
        x.lock(1, 0, 3).is(1);
        x.timeout(100000).is(0);
        x.tick(99999).is(100000);
        x.lock(1, 0, 3).is(0);
        x.tick(1);
        x.lock(1, 0, 3).is(1);
    }

    private static void decided() {
        Trial.of("DECIDED is one whose PRIMARY cell has no LOCK with that START.");
        Trial x = new Trial();
        x.prepare(0, 1, 0, 5, 2, 0, 6);
        x.steps(0, 1, 1);
        x.lock(1, 0, 4).is(0);
        x.lock(2, 0, 4).is(0);
        x.steps(0, 2);
        x.lock(2, 0, 4).is(1);
        x.prepare(1, 1, 0, 7);
        x.steps(1, 1);
        x.lock(1, 0, 0).is(3);
        x.lock(2, 0, 4).is(1);
        x.lock(1, 0, 4).is(0);
        x.begin(2);
        x.read(2, 2, 0).is(-5);
        x.version(2, 0, 0, 0).is(2);
    }

    private static void cleaningOfThePrimaryItself() {
        Trial.of("if p has a LOCK with s (which may be x itself): that goes, and p's DATA of s, and p has a WRITE s, ROLLED");
        Trial x = new Trial();
        x.put(0, 1, 0, 4);
        x.prepare(0, 1, 0, 5);
        x.steps(0, 1);
        x.tick(11);
        x.begin(1);
        x.read(1, 1, 0).is(-5);
        x.lock(1, 0, 0).is(0);
        x.data(1, 0, 0).is(1);
        x.data(1, 0, 1).is(1);
        x.versions(1, 0).is(2);
        x.version(1, 0, 0, 0).is(3);
        x.version(1, 0, 0, 1).is(0);
        x.version(1, 0, 0, 2).is(0);
        x.read(1, 1, 0).is(4);
        x.told(8).is(1);
        x.told(2).is(3);
    }

    private static void cleaningWhileThePrimaryIsLocked() {
        Trial.of("if p has a LOCK with s: that goes, and p's DATA of s, and p has a WRITE s, ROLLED (another cell than x)");
        Trial x = new Trial();
        x.prepare(0, 1, 0, 5, 1, 1, 6, 2, 0, 7);
        x.steps(0, 1, 1);
        x.tick(11);
        x.begin(1);
        x.read(1, 2, 0).is(-5);
        x.lock(1, 0, 0).is(0);
        x.data(1, 0, 0).is(0);
        x.version(1, 0, 0, 0).is(1);
        x.version(1, 0, 0, 1).is(0);
        x.lock(2, 0, 0).is(1);
        x.data(2, 0, 0).is(1);
        x.versions(2, 0).is(0);
        x.lock(1, 1, 0).is(1);
        x.told(8).is(1);
    }

    private static void cleaningOfACommittedOne() {
        Trial.of("Else, if p has a WRITE that is not ROLLED whose START is s, with the ticket k: x has a WRITE k with s, and its "
            + "LOCK goes.");
        Trial x = new Trial();
        x.prepare(0, 1, 0, 5, 2, 0, 6);
        x.steps(0, 1, 1, 2);
        x.begin(1);
        x.read(1, 2, 0).is(-5);
        x.lock(2, 0, 0).is(0);
        x.versions(2, 0).is(1);
        x.version(2, 0, 0, 0).is(2);
        x.version(2, 0, 0, 1).is(1);
        x.version(2, 0, 0, 2).is(6);
        x.data(2, 0, 0).is(1);
        x.read(1, 2, 0).is(6);
        x.told(2).is(4);
        x.told(8).is(1);
    }

    private static void cleaningOfACommittedOneUnderLaterOnes() {
        Trial.of("if p has a WRITE that is not ROLLED whose START is s: also below WRITES of others, and ROLLED ones");
        Trial x = new Trial();
        x.put(7, 1, 0, 4);
        x.prepare(0, 1, 0, 5, 2, 0, 6);
        x.steps(0, 1, 1, 2);
        x.crash(0);
        x.put(1, 1, 0, 8);
        x.putRolled(2, 3, 1, 0);
        x.begin(4);
        x.read(4, 2, 0).is(-5);
        x.version(2, 0, 0, 0).is(4);
        x.version(2, 0, 0, 1).is(3);
        x.read(4, 2, 0).is(6);
        x.read(4, 1, 0).is(8);
    }

    private static void cleaningOfAnUndoneOne() {
        Trial.of("Else x's LOCK goes, and its DATA of s.");
        Trial x = new Trial();
        x.put(0, 2, 0, 4);
        x.prepare(0, 1, 0, 5, 2, 0, 6);
        x.steps(0, 1, 1);
        x.tick(11);
        x.begin(1);
        x.read(1, 1, 0).is(-5);
        x.read(1, 2, 0).is(-5);
        x.lock(2, 0, 0).is(0);
        x.versions(2, 0).is(1);
        x.data(2, 0, 0).is(1);
        x.data(2, 0, 1).is(1);
        x.read(1, 2, 0).is(4);
        x.told(2).is(3);
        x.told(8).is(2);
    }

    /** A transaction goes on locking while its PRIMARY's ROLLED is swept away: its LOCK has nothing to go by then. */
    private static void cleaningBehindASweepOfThePrimary() {
        Trial.of("Else x's LOCK goes, and its DATA of s: p has no WRITE at all");
        Trial x = new Trial();
        x.prepare(0, 1, 0, 5, 2, 0, 6);
        x.steps(0, 1);
        x.tick(11);
        x.begin(1);
        x.read(1, 1, 0).is(-5);
        x.sweep(1).is(1);
        x.versions(1, 0).is(0);
        x.steps(0, 1);
        x.lock(2, 0, 4).is(1);
        x.read(1, 2, 0).is(-5);
        x.lock(2, 0, 0).is(0);
        x.data(2, 0, 0).is(0);
        x.told(2).is(0);
        x.steps(0, 4, 0);
    }

    private static void barsByStart() {
        Trial.of("A LOCK BARS a transaction's read of a cell when its START is less than the transaction's.");
        Trial x = new Trial();
        x.put(0, 1, 0, 4);
        x.begin(1).is(3);
        x.prepare(0, 1, 0, 5);
        x.begin(2).is(5);
        x.steps(0, 1);
        x.lock(1, 0, 0).is(4);
        x.read(1, 1, 0).changesNothing(4);
        x.next(1, 1).changesNothing(1);
        x.read(2, 1, 0).changesNothing(-6);
        x.next(2, 1).changesNothing(-6);
        x.tick(11);
        x.read(1, 1, 0).is(4);
        x.next(1, 0).is(1);
        x.lock(1, 0, 0).is(4);
        x.told(8).is(0);
    }

    private static void againOrWait() {
        Trial.of("If it is DECIDED or LATE, it is CLEANED, and the answer is -5 (AGAIN: the same call goes on from there); else the "
            + "answer is -6 (WAIT).");
        Trial x = new Trial();
        x.prepare(0, 1, 0, 5, 2, 0, 6, 3, 0, 7);
        x.steps(0, 1, 1, 1);
        x.begin(1);
        x.read(1, 3, 0).changesNothing(-6);
        x.next(1, 2).changesNothing(-6);
        x.steps(0, 2);
        x.lock(3, 0, 3).is(0);
        x.read(1, 3, 0).is(-5);
        x.read(1, 3, 0).is(-7);
        x.next(1, 2).is(-5);
        x.next(1, 2).is(-7);
        x.begin(2);
        x.read(2, 3, 0).is(7);
        x.next(2, 2).is(2);
        x.prepare(3, 4, 0, 8, 5, 0, 9);
        x.steps(3, 1, 1);
        x.begin(4);
        x.tick(11);
        x.next(4, 5).is(-5);
        x.next(4, 5).is(-5);
        x.next(4, 5).is(-7);
        x.told(8).is(4);
    }

    private static void nextByRowsAndColumns() {
        Trial.of("In next() cells are looked at by rows, in a row by columns: the first one that bars, or in which something is "
            + "SEEN, counts.");
        Trial x = new Trial();
        x.put(0, 5, 1, 7);
        x.put(0, 9, 3, 7);
        x.prepare(0, 5, 2, 8, 6, 3, 8, 9, 2, 8);
        x.steps(0, 1, 1, 1);
        x.begin(1);
        x.next(1, 0).is(5);
        x.next(1, 5).is(5);
        x.next(1, 6).is(-6);
        x.next(1, 7).is(-6);
        x.write(1, 6, 1, 4);
        x.next(1, 6).is(6);
        x.write(1, 6, 1, -1);
        x.next(1, 6).is(-6);
        x.write(1, 9, 1, 4);
        x.next(1, 7).is(9);
        x.write(1, 5, 1, -1);
        x.next(1, 0).is(-6);
        x.next(1, 10).is(-7);
        x.tick(11);
        x.next(1, 7).is(9);
        x.told(8).is(0);
        x.next(1, 0).is(-5);
        x.lock(5, 2, 0).is(0);
        x.lock(6, 3, 0).is(5);
    }

    private static void seenOwnWrite() {
        Trial.of("SEEN is in a cell by a transaction: its own write");
        Trial x = new Trial();
        x.put(0, 1, 0, 4);
        x.begin(1);
        x.write(1, 1, 0, 0);
        x.read(1, 1, 0).is(0);
        x.write(1, 1, 0, MAX);
        x.read(1, 1, 0).is(MAX);
        x.write(1, 1, 0, -1);
        x.read(1, 1, 0).is(-7);
        x.next(1, 0).is(-7);
        x.begin(2);
        x.read(2, 1, 0).is(4);
    }

    private static void seenByTickets() {
        Trial.of("else the DATA of the WRITE, not ROLLED, with the greatest ticket not above its START");
        Trial x = new Trial();
        x.put(0, 1, 0, 10);
        x.prepare(0, 1, 0, 20);
        x.steps(0, 1);
        x.begin(1).is(4);
        x.steps(0, 2);
        x.version(1, 0, 0, 0).is(5);
        x.begin(2).is(6);
        x.put(0, 1, 0, 30);
        x.begin(3).is(9);
        x.read(1, 1, 0).is(10);
        x.read(2, 1, 0).is(20);
        x.read(3, 1, 0).is(30);
    }

    private static void seenNotRolled() {
        Trial.of("the WRITE, not ROLLED");
        Trial x = new Trial();
        x.put(0, 1, 0, 10);
        x.putRolled(0, 1, 1, 0);
        x.putRolled(0, 1, 1, 0);
        x.versions(1, 0).is(3);
        x.begin(2);
        x.read(2, 1, 0).is(10);
        x.next(2, 0).is(1);
    }

    private static void seenNothing() {
        Trial.of("if there is none, or it is DELETED, nothing");
        Trial x = new Trial();
        x.begin(1);
        x.put(0, 1, 0, 10);
        x.putRolled(0, 2, 2, 0);
        x.begin(3);
        x.put(0, 1, 0, -1);
        x.begin(4);
        x.read(1, 1, 0).is(-7);
        x.read(1, 1, 0).changesNothing(-7);
        x.next(1, 0).changesNothing(-7);
        x.read(3, 1, 0).is(10);
        x.read(3, 2, 0).changesNothing(-7);
        x.next(3, 2).changesNothing(-7);
        x.read(4, 1, 0).changesNothing(-7);
        x.next(4, 0).changesNothing(-7);
    }

    private static void ownWriteIsNotBarred() {
        Trial.of("(A cell with an own write is not barred.)");
        Trial x = new Trial();
        x.prepare(0, 1, 0, 5, 2, 0, 5);
        x.steps(0, 1, 1);
        x.begin(1);
        x.write(1, 1, 0, 8);
        x.write(1, 2, 0, -1);
        x.read(1, 1, 0).changesNothing(8);
        x.read(1, 2, 0).changesNothing(-7);
        x.next(1, 0).changesNothing(1);
        x.next(1, 2).changesNothing(-7);
        x.tick(11);
        x.read(1, 1, 0).is(8);
        x.lock(1, 0, 0).is(1);
        x.told(8).is(0);
    }
}
