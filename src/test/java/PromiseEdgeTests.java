/** Each sentence of the 19 promises that names an edge, with a test of its own. */
public final class PromiseEdgeTests {
    private static final int MAX = Integer.MAX_VALUE;
    private static final int MIN = Integer.MIN_VALUE;

    public static void main(String[] args) {
        newObjectIsEmpty();
        newObjectHasNoTransaction();
        newObjectsAreApart();
        beginInEachState();
        readWhatIsSeen();
        readInEachState();
        nextFromARowOn();
        nextWhenThereIsNone();
        nextInEachState();
        writeValues();
        writeInPlaceOfAnother();
        writeInEachState();
        writeOfMoreThan16();
        commitWithAndWithoutOwnWrites();
        commitInEachState();
        stepInEachState();
        stepAnswers();
        crashInEachState();
        crashLeavesLocks();
        tickRange();
        timeoutRange();
        fallOracleNextTicket();
        fallLines();
        sweepTicketRange();
        sweepTicketsBehindAFall();
        sweepAndStarts();
        sweepAndLocks();
        sweepNotAbove();
        sweepRolled();
        sweepGreatestIsNotARolledOne();
        sweepDeleted();
        sweepOfEachCell();
        sweepCountsRecords();
        stateOfNone();
        stateOfEachState();
        stateRowsDone();
        stateRowsDoneWhenOthersClean();
        stateTicket();
        stateWhats();
        lockWithoutALock();
        lockWhats();
        versionsOfACell();
        versionPlaces();
        versionWhats();
        dataOfACell();
        dataWhats();
        toldAtFirst();
        toldLastTicket();
        toldCommits();
        toldCleaned();
        toldWhats();
        Trial.endAll();
    }

    private static void newObjectIsEmpty() {
        Trial.of("An empty table");
        for (int row = 0; row < 64; row++) {
            Trial x = new Trial();
            for (int column = 0; column < 4; column++) {
                x.versions(row, column).is(0);
                x.version(row, column, 0, 0).is(-1);
                x.data(row, column, 0).is(0);
                x.data(row, column, 1).is(0);
                for (int what = 0; what < 5; what++) {
                    x.lock(row, column, what).is(0);
                }
            }
            x.begin(0).is(1);
            x.read(0, row, row % 4).is(-7);
            x.next(0, row).is(-7);
        }
    }

    private static void newObjectHasNoTransaction() {
        Trial.of("no client has a transaction");
        Trial x = new Trial();
        for (int client = 0; client < 8; client++) {
            for (int what = 0; what < 6; what++) {
                x.state(client, what).is(0);
            }
            x.step(client).is(-3);
            x.crash(client).is(0);
        }
    }

    private static void newObjectsAreApart() {
        Trial.of("A new object: what another one did is not its own");
        Trial other = new Trial();
        other.tick(50);
        other.timeout(3);
        other.prepare(0, 1, 0, 5, 2, 0, 5);
        other.steps(0, 1, 1, 2);
        Trial x = new Trial();
        x.told(6).is(0);
        x.versions(1, 0).is(0);
        x.lock(2, 0, 0).is(0);
        x.timeout(10).is(10);
        x.begin(0).is(1);
        other.steps(0, 3);
    }

    /** Clients 0 to 4 have STATES 0 to 4, with LAST at the clock; tickets up to 5 are given. */
    private static Trial withEachState() {
        Trial x = new Trial();
        x.tick(2);
        x.begin(1).is(1);
        x.write(1, 1, 0, 11);
        x.prepare(2, 2, 0, 21, 22, 0, 22);
        x.steps(2, 1);
        x.prepare(3, 3, 0, 31, 33, 0, 32, 34, 0, 33);
        x.steps(3, 1, 1, 1, 2);
        x.prepare(4, 4, 0, 41, 2, 0, 42);
        x.steps(4, 1, 4);
        return x;
    }

    private static void beginInEachState() {
        Trial.of("A client begins a transaction: its START. -1, -3 it has one.");
        Trial x = withEachState();
        for (int client = 1; client < 5; client++) {
            x.begin(client).changesNothing(-3);
        }
        x.begin(-1).changesNothing(-1);
        x.begin(8).changesNothing(-1);
        x.begin(0).is(6);
        x.state(0, 0).is(1);
        x.state(0, 1).is(6);
        x.begin(0).changesNothing(-3);
        x.commit(0).is(3);
        x.begin(0).is(7);
        x.steps(3, 1, 3);
        x.begin(3).is(8);
        x.steps(4, 1, 0);
        x.begin(4).is(9);
        x.crash(2);
        x.begin(2).is(10);
        x.state(2, 3).is(0);
    }

    private static void readWhatIsSeen() {
        Trial.of("What a client's transaction SEES in a cell. -5, -6, -7.");
        Trial x = withEachState();
        x.begin(0);
        x.read(0, 3, 0).changesNothing(31);
        x.read(0, 1, 0).changesNothing(-7);
        x.read(0, 2, 0).changesNothing(-6);
        x.read(0, 33, 0).is(-5);
        x.read(0, 33, 0).is(32);
        x.read(1, 3, 0).changesNothing(-7);
        x.read(1, 2, 0).changesNothing(-7);
    }

    private static void readInEachState() {
        Trial.of("read: -1, -3 it is not OPEN");
        Trial x = withEachState();
        x.read(0, 1, 0).changesNothing(-3);
        x.read(1, 1, 0).changesNothing(11);
        for (int client = 2; client < 5; client++) {
            x.read(client, 1, 0).changesNothing(-3);
            x.read(client, client, 0).changesNothing(-3);
            x.read(client, 64, 0).changesNothing(-1);
        }
    }

    private static void nextFromARowOn() {
        Trial.of("The least row, from one on, in which a client's transaction SEES something.");
        Trial x = new Trial();
        x.put(0, 0, 3, 0);
        x.put(0, 40, 0, 5);
        x.put(0, 63, 3, MAX);
        x.begin(0);
        x.next(0, 0).changesNothing(0);
        x.next(0, 1).changesNothing(40);
        x.next(0, 40).changesNothing(40);
        x.next(0, 41).changesNothing(63);
        x.next(0, 63).changesNothing(63);
    }

    private static void nextWhenThereIsNone() {
        Trial.of("next: -7 there is none");
        Trial x = new Trial();
        x.begin(1);
        x.put(0, 0, 0, 5);
        x.put(0, 62, 3, 5);
        x.put(0, 63, 0, -1);
        x.begin(0);
        x.next(0, 62).is(62);
        x.next(0, 63).changesNothing(-7);
        x.next(1, 0).changesNothing(-7);
        x.write(0, 62, 3, -1);
        x.next(0, 1).changesNothing(-7);
        x.write(0, 63, 3, 0);
        x.next(0, 1).is(63);
    }

    private static void nextInEachState() {
        Trial.of("next: -1, -3 it is not OPEN");
        Trial x = withEachState();
        x.next(0, 0).changesNothing(-3);
        x.next(1, 0).changesNothing(1);
        for (int client = 2; client < 5; client++) {
            x.next(client, 0).changesNothing(-3);
            x.next(client, 64).changesNothing(-1);
            x.next(client, -1).changesNothing(-1);
        }
    }

    private static void writeValues() {
        Trial.of("a cell will have a value, or, with -1, be DELETED .. -2 the value is below -1");
        Trial x = new Trial();
        x.begin(0);
        x.write(0, 1, 0, -2).changesNothing(-2);
        x.write(0, 1, 0, MIN).changesNothing(-2);
        x.write(0, 1, 0, -1).is(1);
        x.write(0, 1, 1, 0).is(2);
        x.write(0, 1, 2, MAX).is(3);
        x.write(0, 1, 2, -2).changesNothing(-2);
        x.read(0, 1, 0).is(-7);
        x.read(0, 1, 1).is(0);
        x.read(0, 1, 2).is(MAX);
    }

    private static void writeInPlaceOfAnother() {
        Trial.of("(in place of an own write of it before): how many cells that are");
        Trial x = new Trial();
        x.begin(0);
        x.write(0, 1, 0, 5).is(1);
        x.write(0, 1, 0, 6).is(1);
        x.write(0, 1, 0, -1).is(1);
        x.write(0, 1, 1, 7).is(2);
        x.write(0, 1, 0, 8).is(2);
        x.write(0, 2, 1, 9).is(3);
        x.write(0, 1, 1, -1).is(3);
        x.state(0, 3).is(3);
        x.told(2).is(0);
        x.commit(0);
        x.steps(0, 1, 1, 2, 3);
        x.version(1, 0, 0, 2).is(8);
        x.version(1, 1, 0, 2).is(-1);
        x.version(2, 1, 0, 2).is(9);
        x.told(2).is(6);
    }

    private static void writeInEachState() {
        Trial.of("write: -3 it is not OPEN");
        Trial x = withEachState();
        x.write(0, 1, 0, 5).changesNothing(-3);
        for (int client = 2; client < 5; client++) {
            x.write(client, 1, 0, 5).changesNothing(-3);
            x.write(client, client, 0, 5).changesNothing(-3);
            x.write(client, 64, 0, 5).changesNothing(-1);
        }
        x.write(1, 1, 0, 5).is(1);
    }

    private static void writeOfMoreThan16() {
        Trial.of("write: -4 there would be more than 16");
        Trial x = new Trial();
        x.begin(0);
        for (int i = 0; i < 16; i++) {
            x.write(0, i / 4, i % 4, i).is(i + 1);
        }
        x.write(0, 4, 0, 16).changesNothing(-4);
        x.write(0, 63, 3, -1).changesNothing(-4);
        x.write(0, 3, 3, 77).is(16);
        x.write(0, 0, 0, 78).is(16);
        x.write(0, 4, 0, 16).changesNothing(-4);
        x.commit(0).is(1);
        x.steps(0, 1, 1, 1, 1, 2, 1, 1, 3);
        x.version(3, 3, 0, 2).is(77);
        x.version(0, 0, 0, 2).is(78);
        x.versions(4, 0).is(0);
        x.begin(0);
        x.write(0, 4, 0, 16).is(1);
    }

    private static void commitWithAndWithoutOwnWrites() {
        Trial.of("A transaction with own writes is LOCKING: 1; without any it is at its end: 3.");
        Trial x = new Trial();
        x.begin(0);
        x.begin(1);
        x.write(1, 1, 0, -1).is(1);
        x.commit(0).is(3);
        x.state(0, 0).is(0);
        x.step(0).changesNothing(-3);
        x.commit(1).is(1);
        x.state(1, 0).is(2);
        x.state(1, 4).is(0);
        x.told(0).is(2);
        x.told(2).is(0);
        x.told(7).is(0);
        x.begin(0).is(3);
        x.read(0, 1, 0).is(-7);
        x.commit(0).is(3);
    }

    private static void commitInEachState() {
        Trial.of("commit: -1, -3 it is not OPEN");
        Trial x = withEachState();
        x.commit(0).changesNothing(-3);
        for (int client = 2; client < 5; client++) {
            x.commit(client).changesNothing(-3);
        }
        x.commit(-1).changesNothing(-1);
        x.commit(8).changesNothing(-1);
        x.commit(1).is(1);
    }

    private static void stepInEachState() {
        Trial.of("step: -1, -3 it is OPEN, or there is none");
        Trial x = withEachState();
        x.step(0).changesNothing(-3);
        x.step(1).changesNothing(-3);
        x.step(-1).changesNothing(-1);
        x.step(8).changesNothing(-1);
        x.begin(0);
        x.step(0).changesNothing(-3);
        x.step(2).is(1);
        x.step(3).is(1);
        x.step(4).is(1);
    }

    private static void stepAnswers() {
        Trial.of("A STEP: 0 .. 5 as told.");
        Trial x = new Trial();
        x.prepare(0, 1, 0, 5, 2, 0, 6);
        x.prepare(1, 2, 0, 7);
        x.steps(0, 1, 1);
        x.steps(1, 4, 0);
        x.steps(0, 2);
        x.prepare(1, 2, 0, 8);
        x.steps(1, 5, 1, 2);
        x.steps(0, 3);
        x.steps(0, -3);
        x.steps(1, -3);
    }

    private static void crashInEachState() {
        Trial.of("its transaction is none any more .. 1; 0 it had none. -1.");
        Trial x = withEachState();
        x.crash(0).changesNothing(0);
        x.crash(-1).changesNothing(-1);
        x.crash(8).changesNothing(-1);
        for (int client = 1; client < 5; client++) {
            x.crash(client).is(1);
            for (int what = 0; what < 6; what++) {
                x.state(client, what).is(0);
            }
            x.step(client).is(-3);
            x.crash(client).changesNothing(0);
        }
        x.told(6).is(2);
        x.begin(1).is(6);
        x.read(1, 1, 0).is(-7);
    }

    private static void crashLeavesLocks() {
        Trial.of("its LOCKS stay");
        Trial x = withEachState();
        x.told(2).is(14);
        for (int client = 1; client < 5; client++) {
            x.crash(client).is(1);
        }
        x.told(2).is(14);
        x.lock(2, 0, 0).is(2);
        x.lock(33, 0, 0).is(3);
        x.lock(34, 0, 0).is(3);
        x.lock(4, 0, 0).is(5);
        x.lock(4, 0, 2).is(2);
        x.data(2, 0, 1).is(2);
        x.data(4, 0, 1).is(5);
        x.versions(3, 0).is(1);
        x.told(3).is(12);
    }

    private static void tickRange() {
        Trial.of("The clock goes on by n: what it is. -2 n is not 0 .. 100000");
        Trial x = new Trial();
        x.tick(-1).changesNothing(-2);
        x.tick(100001).changesNothing(-2);
        x.tick(MIN).changesNothing(-2);
        x.tick(MAX).changesNothing(-2);
        x.tick(0).changesNothing(0);
        x.tick(1).is(1);
        x.tick(100000).is(100001);
        x.tick(0).changesNothing(100001);
        x.tick(-1).changesNothing(-2);
        x.told(6).is(100001);
    }

    private static void timeoutRange() {
        Trial.of("Another TIMEOUT: what it was. -2 it is not 0 .. 100000.");
        Trial x = new Trial();
        x.timeout(-1).changesNothing(-2);
        x.timeout(100001).changesNothing(-2);
        x.timeout(MIN).changesNothing(-2);
        x.timeout(MAX).changesNothing(-2);
        x.timeout(0).is(10);
        x.timeout(0).is(0);
        x.timeout(100000).is(0);
        x.timeout(100001).changesNothing(-2);
        x.timeout(10).is(100000);
    }

    private static void fallOracleNextTicket() {
        Trial.of("The oracle falls: the next ticket.");
        Trial x = new Trial();
        x.fallOracle().changesNothing(1);
        x.begin(0).is(1);
        x.begin(1).is(2);
        x.fallOracle().is(17);
        x.fallOracle().changesNothing(17);
        x.told(0).is(2);
        x.told(1).is(16);
        x.state(0, 1).is(1);
        x.write(0, 1, 0, 5);
        x.commit(0);
        x.steps(0, 1, 2);
        x.version(1, 0, 0, 0).is(17);
        x.begin(0).is(18);
        x.told(1).is(32);
        for (int ticket = 19; ticket <= 32; ticket++) {
            x.crash(0);
            x.begin(0).is(ticket);
        }
        x.fallOracle().changesNothing(33);
    }

    private static void fallLines() {
        Trial.of("The store falls: how many LINES the LOG has.");
        Trial x = new Trial();
        x.fall().changesNothing(0);
        x.prepare(0, 1, 0, 5, 2, 0, 6);
        x.fall().changesNothing(0);
        x.steps(0, 1);
        x.fall().changesNothing(2);
        x.steps(0, 1, 2, 3);
        x.fall().changesNothing(8);
        x.putFourRows(1, 10);
        x.fall().changesNothing(8);
        x.told(4).is(1);
        x.prepare(2, 20, 0, 5);
        x.steps(2, 1, 2);
        x.fall().changesNothing(12);
    }

    private static void sweepTicketRange() {
        Trial.of("sweep: -2 the ticket is below 0 or was not given yet");
        Trial x = new Trial();
        x.sweep(-1).changesNothing(-2);
        x.sweep(MIN).changesNothing(-2);
        x.sweep(1).changesNothing(-2);
        x.sweep(MAX).changesNothing(-2);
        x.sweep(0).changesNothing(0);
        x.put(0, 1, 0, 5);
        x.put(0, 1, 0, 6);
        x.sweep(5).changesNothing(-2);
        x.sweep(0).changesNothing(0);
        x.sweep(-1).changesNothing(-2);
        x.sweep(4).is(2);
    }

    private static void sweepTicketsBehindAFall() {
        Trial.of("sweep: -2 the ticket .. was not given yet (behind a fall of the oracle)");
        Trial x = new Trial();
        x.put(0, 1, 0, 5);
        x.put(0, 1, 0, 6);
        x.fallOracle().is(17);
        x.sweep(5).changesNothing(-2);
        x.sweep(16).changesNothing(-2);
        x.sweep(17).changesNothing(-2);
        x.begin(0).is(17);
        x.sweep(18).changesNothing(-2);
        x.sweep(17).is(2);
    }

    private static void sweepAndStarts() {
        Trial.of("sweep: -3 a transaction has a START below it");
        Trial x = new Trial();
        x.put(0, 1, 0, 5);
        x.put(0, 1, 0, 6);
        x.begin(0).is(5);
        x.begin(7).is(6);
        x.begin(1).is(7);
        x.crash(1);
        x.sweep(7).changesNothing(-3);
        x.sweep(6).changesNothing(-3);
        x.crash(0);
        x.sweep(7).changesNothing(-3);
        x.sweep(6).is(2);
        x.crash(7);
        x.sweep(7).changesNothing(0);
    }

    private static void sweepAndLocks() {
        Trial.of("sweep: -3 .. or a LOCK is there with a START not above it");
        Trial x = new Trial();
        x.put(0, 1, 0, 5);
        x.put(0, 1, 0, 6);
        x.prepare(0, 63, 3, 7);
        x.sweep(5).is(2);
        x.put(1, 1, 0, 8);
        x.steps(0, 1);
        x.lock(63, 3, 0).is(5);
        x.sweep(5).changesNothing(-3);
        x.sweep(4).changesNothing(0);
        x.crash(0);
        x.sweep(5).changesNothing(-3);
        x.sweep(6).changesNothing(-3);
        x.sweep(7).changesNothing(-3);
        x.sweep(4).changesNothing(0);
        x.tick(11);
        x.begin(2);
        x.read(2, 63, 3).is(-5);
        x.sweep(7).is(3);
        x.prepare(3, 0, 0, 7);
        x.steps(3, 1);
        x.crash(2);
        x.sweep(9).changesNothing(-3);
        x.sweep(8).changesNothing(0);
    }

    private static void sweepNotAbove() {
        Trial.of("of each cell's WRITES with tickets not above this one: .. all others but the one with the greatest ticket, with "
            + "their DATA");
        Trial x = new Trial();
        for (int i = 1; i <= 4; i++) {
            x.put(0, 1, 0, 10 * i);
        }
        x.sweep(1).changesNothing(0);
        x.sweep(2).changesNothing(0);
        x.sweep(3).changesNothing(0);
        x.sweep(4).is(2);
        x.versions(1, 0).is(3);
        x.data(1, 0, 0).is(3);
        x.version(1, 0, 2, 2).is(20);
        x.sweep(5).changesNothing(0);
        x.sweep(8).is(4);
        x.versions(1, 0).is(1);
        x.version(1, 0, 0, 0).is(8);
        x.version(1, 0, 0, 1).is(7);
        x.version(1, 0, 0, 2).is(40);
        x.data(1, 0, 0).is(1);
        x.sweep(8).changesNothing(0);
        x.begin(0);
        x.read(0, 1, 0).is(40);
    }

    private static void sweepRolled() {
        Trial.of("sweep: those that are ROLLED");
        Trial x = new Trial();
        x.putRolled(0, 1, 1, 0);
        x.putRolled(0, 1, 1, 0);
        x.putRolled(0, 1, 2, 0);
        x.version(1, 0, 0, 0).is(3);
        x.version(1, 0, 1, 0).is(1);
        x.sweep(0).changesNothing(0);
        x.sweep(1).is(1);
        x.sweep(2).changesNothing(0);
        x.sweep(3).is(1);
        x.versions(1, 0).is(0);
        x.versions(2, 0).is(1);
        x.sweep(4).changesNothing(0);
        x.sweep(5).is(1);
        x.told(2).is(0);
    }

    private static void sweepGreatestIsNotARolledOne() {
        Trial.of("sweep: all others (than ROLLED ones) but the one with the greatest ticket");
        Trial x = new Trial();
        x.put(0, 1, 0, 5);
        x.putRolled(0, 1, 1, 0);
        x.put(0, 1, 0, 6);
        x.putRolled(0, 1, 1, 0);
        x.versions(1, 0).is(4);
        x.sweep(8).is(4);
        x.versions(1, 0).is(1);
        x.version(1, 0, 0, 0).is(6);
        x.data(1, 0, 0).is(1);
        x.begin(0);
        x.read(0, 1, 0).is(6);
    }

    private static void sweepDeleted() {
        Trial.of("that one, too, if its DATA are DELETED");
        Trial x = new Trial();
        x.put(0, 1, 0, 5);
        x.put(0, 1, 0, -1);
        x.put(0, 1, 0, 6);
        x.put(0, 1, 0, -1);
        x.sweep(3).changesNothing(0);
        x.sweep(4).is(4);
        x.versions(1, 0).is(2);
        x.data(1, 0, 0).is(2);
        x.sweep(6).changesNothing(0);
        x.sweep(7).changesNothing(0);
        x.sweep(8).is(4);
        x.versions(1, 0).is(0);
        x.data(1, 0, 0).is(0);
        x.told(2).is(0);
        x.begin(0);
        x.read(0, 1, 0).is(-7);
    }

    private static void sweepOfEachCell() {
        Trial.of("sweep: of each cell's WRITES");
        Trial x = new Trial();
        x.put(0, 0, 0, 1, 0, 3, 2);
        x.put(0, 63, 0, 3, 63, 3, 4);
        x.put(0, 0, 0, 5, 0, 3, 6);
        x.put(0, 63, 0, 7, 63, 3, -1);
        x.sweep(7).is(4);
        x.sweep(8).is(6);
        x.versions(0, 0).is(1);
        x.versions(0, 3).is(1);
        x.versions(63, 0).is(1);
        x.versions(63, 3).is(0);
    }

    private static void sweepCountsRecords() {
        Trial.of("How many RECORDS went.");
        Trial x = new Trial();
        x.put(0, 1, 0, 5);
        x.putRolled(0, 1, 1, 0);
        x.put(0, 1, 0, 6);
        x.told(2).is(5);
        x.told(3).is(13);
        x.sweep(6).is(3);
        x.told(2).is(2);
        x.told(3).is(16);
        x.sweep(6).changesNothing(0);
        x.told(3).is(16);
    }

    private static void stateOfNone() {
        Trial.of("what = 0 STATE, 1 START (0), 2 LAST (0) .. 5 the ticket by which it is committed (0)");
        Trial x = new Trial();
        x.tick(9);
        x.prepare(3, 1, 0, 5);
        x.steps(3, 1, 2);
        x.read(3, 1, 0).is(-3);
        for (int what = 0; what < 6; what++) {
            x.state(3, what).is(0);
            x.state(7, what).is(0);
        }
    }

    private static void stateIs(Trial x, int client, int... wants) {
        for (int what = 0; what < wants.length; what++) {
            x.state(client, what).is(wants[what]);
        }
    }

    private static void stateOfEachState() {
        Trial.of("Of a client: what = 0 STATE, 1 START (0), 2 LAST (0), 3 how many cells it writes");
        Trial x = withEachState();
        stateIs(x, 0, 0, 0, 0, 0, 0, 0);
        stateIs(x, 1, 1, 1, 2, 1, 0, 0);
        stateIs(x, 2, 2, 2, 2, 2, 1, 0);
        stateIs(x, 3, 3, 3, 2, 3, 1, 4);
        stateIs(x, 4, 4, 5, 2, 2, 0, 0);
    }

    private static void stateRowsDone() {
        Trial.of("4 how many of its ROWS are done (LOCKING: those that have their LOCKS; SETTLING: those with WRITES, the first one, "
            + "too; else 0)");
        Trial x = new Trial();
        x.prepare(1, 9, 0, 1);
        x.begin(0);
        x.write(0, 1, 0, 5);
        x.write(0, 1, 1, 5);
        x.write(0, 2, 0, 5);
        x.write(0, 3, 0, 5);
        x.state(0, 4).is(0);
        x.commit(0);
        x.state(0, 4).is(0);
        x.steps(0, 1);
        x.state(0, 4).is(1);
        x.steps(0, 1, 1);
        x.state(0, 4).is(3);
        x.steps(0, 2);
        x.state(0, 4).is(1);
        x.steps(0, 1);
        x.state(0, 4).is(2);
        x.steps(0, 3);
        x.state(0, 4).is(0);
        x.prepare(2, 8, 0, 1, 9, 0, 1);
        x.steps(2, 1);
        x.steps(1, 1);
        x.steps(2, 4);
        x.state(2, 4).is(0);
        x.steps(2, 1);
        x.state(2, 4).is(0);
    }

    /** The document's "done" is taken as what the transaction's own steps did, in their order. */
    private static void stateRowsDoneWhenOthersClean() {
        Trial.of("4 how many of its ROWS are done (others clean its LOCKS)");
        Trial x = new Trial();
        x.prepare(0, 1, 0, 5, 2, 0, 6, 3, 0, 7);
        x.steps(0, 1, 1, 1, 2);
        x.begin(1);
        x.read(1, 3, 0).is(-5);
        x.state(0, 4).is(1);
        x.steps(0, 1);
        x.state(0, 4).is(2);
        x.steps(0, 3);
    }

    private static void stateTicket() {
        Trial.of("5 the ticket by which it is committed (0)");
        Trial x = new Trial();
        x.prepare(0, 1, 0, 5, 2, 0, 6);
        x.state(0, 5).is(0);
        x.steps(0, 1, 1);
        x.state(0, 5).is(0);
        x.begin(1);
        x.steps(0, 2);
        x.state(0, 5).is(3);
        x.steps(0, 3);
        x.state(0, 5).is(0);
        x.begin(0);
        x.state(0, 5).is(0);
    }

    private static void stateWhats() {
        Trial.of("state: -1, -2 no such what");
        Trial x = withEachState();
        for (int client = 0; client < 5; client++) {
            x.state(client, -1).changesNothing(-2);
            x.state(client, 6).changesNothing(-2);
        }
        x.state(1, MIN).changesNothing(-2);
        x.state(1, MAX).changesNothing(-2);
        x.state(8, 0).changesNothing(-1);
        x.state(-1, 6).changesNothing(-1);
        x.state(1, 0).changesNothing(1);
        x.state(3, 5).changesNothing(4);
    }

    private static void lockWithoutALock() {
        Trial.of("Of a cell's LOCK: what = 0 its START (0: there is none) .. (1 to 4: 0 without a LOCK)");
        Trial x = new Trial();
        x.tick(5);
        x.prepare(0, 9, 3, 5, 8, 0, 6);
        x.steps(0, 1, 1);
        x.tick(20);
        for (int what = 0; what < 5; what++) {
            x.lock(9, 2, what).is(0);
        }
        int[] wants = {1, 39, 5, 1, 0};
        for (int what = 0; what < 5; what++) {
            x.lock(9, 3, what).is(wants[what]);
            x.lock(8, 0, what).is(wants[what]);
        }
        x.steps(0, 2);
        for (int what = 0; what < 5; what++) {
            x.lock(9, 3, what).is(0);
        }
        x.lock(8, 0, 3).is(0);
        x.lock(8, 0, 4).is(1);
        x.steps(0, 3);
        for (int what = 0; what < 5; what++) {
            x.lock(8, 0, what).is(0);
        }
    }

    private static void lockWhats() {
        Trial.of("lock: -1, -2 no such what");
        Trial x = withEachState();
        for (int what : new int[] {-1, 5, MIN, MAX}) {
            x.lock(2, 0, what).changesNothing(-2);
            x.lock(0, 0, what).changesNothing(-2);
            x.lock(64, 0, what).changesNothing(-1);
            x.lock(0, 4, what).changesNothing(-1);
        }
        for (int what = 0; what < 5; what++) {
            x.lock(-1, 0, what).changesNothing(-1);
            x.lock(0, -1, what).changesNothing(-1);
        }
        x.lock(2, 0, 0).changesNothing(2);
        x.lock(33, 0, 4).changesNothing(1);
    }

    private static void versionsOfACell() {
        Trial.of("How many WRITES a cell has (ROLLED, too). -1.");
        Trial x = new Trial();
        x.versions(1, 0).is(0);
        x.putRolled(0, 1, 1, 0);
        x.versions(1, 0).is(1);
        x.put(0, 1, 0, 5);
        x.versions(1, 0).is(2);
        x.put(0, 1, 0, -1);
        x.versions(1, 0).is(3);
        x.prepare(0, 1, 0, 6);
        x.steps(0, 1);
        x.versions(1, 0).changesNothing(3);
        x.versions(0, 0).is(0);
        x.versions(1, 1).is(0);
        x.versions(-1, 0).changesNothing(-1);
        x.versions(64, 0).changesNothing(-1);
        x.versions(0, -1).changesNothing(-1);
        x.versions(0, 4).changesNothing(-1);
    }

    private static void versionPlaces() {
        Trial.of("Of a cell's i-th WRITE (from 0, by tickets from the greatest down) .. -1 there is none");
        Trial x = new Trial();
        x.version(1, 0, 0, 0).changesNothing(-1);
        x.put(0, 1, 0, 5);
        x.putRolled(0, 1, 1, 0);
        x.put(0, 1, 0, -1);
        x.version(1, 0, 0, 0).is(6);
        x.version(1, 0, 1, 0).is(3);
        x.version(1, 0, 2, 0).is(2);
        for (int what = 0; what < 3; what++) {
            x.version(1, 0, 3, what).changesNothing(-1);
            x.version(1, 0, -1, what).changesNothing(-1);
            x.version(1, 0, MIN, what).changesNothing(-1);
            x.version(1, 0, MAX, what).changesNothing(-1);
            x.version(1, 1, 0, what).changesNothing(-1);
        }
        x.version(1, 0, 3, 3).changesNothing(-1);
    }

    private static void versionWhats() {
        Trial.of("what = 0 its ticket, 1 its START (0: ROLLED), 2 the value of its DATA (-1 DELETED, 0 if it is ROLLED) .. -2 no such "
            + "what");
        Trial x = new Trial();
        x.put(0, 1, 0, MAX);
        x.putRolled(0, 1, 1, 0);
        x.put(0, 1, 0, -1);
        x.put(0, 1, 0, 0);
        int[][] wants = {{8, 7, 0}, {6, 5, -1}, {3, 0, 0}, {2, 1, MAX}};
        for (int i = 0; i < 4; i++) {
            for (int what = 0; what < 3; what++) {
                x.version(1, 0, i, what).changesNothing(wants[i][what]);
            }
            x.version(1, 0, i, -1).changesNothing(-2);
            x.version(1, 0, i, 3).changesNothing(-2);
        }
        x.version(1, 0, 0, MIN).changesNothing(-2);
        x.version(1, 0, 0, MAX).changesNothing(-2);
    }

    private static void dataOfACell() {
        Trial.of("What = 0 how many DATA a cell has, 1 the START of the greatest one (0).");
        Trial x = new Trial();
        x.data(1, 0, 0).is(0);
        x.data(1, 0, 1).is(0);
        x.prepare(0, 1, 0, 5);
        x.data(1, 0, 0).is(0);
        x.steps(0, 1);
        x.data(1, 0, 0).is(1);
        x.data(1, 0, 1).is(1);
        x.steps(0, 2);
        x.put(0, 1, 0, -1);
        x.data(1, 0, 0).is(2);
        x.data(1, 0, 1).is(3);
        x.putRolled(0, 1, 1, 0);
        x.data(1, 0, 0).is(2);
        x.data(1, 0, 1).is(3);
        x.sweep(4).is(4);
        x.data(1, 0, 0).is(0);
        x.data(1, 0, 1).is(0);
        x.versions(1, 0).is(1);
    }

    private static void dataWhats() {
        Trial.of("data: -1, -2 no such what");
        Trial x = withEachState();
        for (int what : new int[] {-1, 2, MIN, MAX}) {
            x.data(3, 0, what).changesNothing(-2);
            x.data(0, 0, what).changesNothing(-2);
            x.data(64, 0, what).changesNothing(-1);
        }
        x.data(-1, 0, 0).changesNothing(-1);
        x.data(0, 4, 0).changesNothing(-1);
        x.data(0, -1, 1).changesNothing(-1);
        x.data(3, 0, 0).changesNothing(1);
        x.data(3, 0, 1).changesNothing(3);
    }

    private static void toldAtFirst() {
        Trial.of("told of a new object");
        Trial x = new Trial();
        for (int what = 0; what < 9; what++) {
            x.told(what).changesNothing(0);
        }
    }

    private static void toldLastTicket() {
        Trial.of("What = 0 the last ticket that was given, 1 the LIMIT");
        Trial x = new Trial();
        x.fallOracle();
        x.told(0).is(0);
        x.told(1).is(0);
        x.begin(0);
        x.told(0).is(1);
        x.told(1).is(16);
        x.begin(0).is(-3);
        x.told(0).is(1);
        x.fallOracle().is(17);
        x.told(0).is(1);
        x.told(1).is(16);
        x.begin(1).is(17);
        x.told(0).is(17);
        x.told(1).is(32);
    }

    private static void toldCommits() {
        Trial.of("7 how often a step answered 2");
        Trial x = new Trial();
        x.begin(0);
        x.commit(0).is(3);
        x.told(7).is(0);
        x.prepare(0, 1, 0, 5, 2, 0, 6);
        x.steps(0, 1, 1);
        x.told(7).is(0);
        x.steps(0, 2);
        x.told(7).is(1);
        x.crash(0);
        x.told(7).is(1);
        x.putRolled(0, 1, 3, 0);
        x.told(7).is(1);
        x.put(0, 4, 0, 1);
        x.told(7).is(2);
    }

    private static void toldCleaned() {
        Trial.of("8 LOCKS that were CLEANED");
        Trial x = new Trial();
        x.prepare(0, 1, 0, 5, 2, 0, 6, 3, 0, 7);
        x.steps(0, 1, 1, 1);
        x.tick(11);
        x.begin(1);
        x.read(1, 3, 0).is(-5);
        x.told(8).is(1);
        x.next(1, 3).is(-5);
        x.told(8).is(2);
        x.prepare(2, 2, 0, 5);
        x.steps(2, 5);
        x.told(8).is(3);
        x.steps(0, 4, 0);
        x.told(8).is(3);
        x.steps(2, 1);
        x.begin(3);
        x.read(3, 2, 0).is(-6);
        x.told(8).is(3);
    }

    private static void toldWhats() {
        Trial.of("told: -2 no such what");
        Trial x = withEachState();
        for (int what : new int[] {-1, 9, MIN, MAX}) {
            x.told(what).changesNothing(-2);
        }
        int[] wants = {5, 16, 14, 12, 0, 0, 2, 1, 0};
        for (int what = 0; what < 9; what++) {
            x.told(what).changesNothing(wants[what]);
        }
    }
}
