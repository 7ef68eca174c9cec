/**
 * A table of rows with versions, and the transactions of eight clients over it, each of which sees one moment and
 * writes all or nothing. The words in capitals are those of the document's terms.
 */
public final class SnapRows {
    private static final int CLIENTS = 8;
    private static final int ROWS = 64;
    private static final int COLUMNS = 4;
    private static final int MOST_OWN_WRITES = 16;
    private static final int MOST_RECORDS = 3000;
    private static final int RECORDS_OF_A_LOCK = 2;
    private static final int TICKETS_AT_ONCE = 16;
    private static final int LINES_OF_A_RUN = 64;
    private static final int MOST_RUNS = 4;
    private static final int LONGEST_TIME = 100000;
    private static final int LAST_TIME = 2147483647;
    private static final int FIRST_TIMEOUT = 10;

    private static final int NO_SUCH = -1;
    private static final int OUT_OF_RANGE = -2;
    private static final int WRONG_STATE = -3;
    private static final int NO_ROOM = -4;
    private static final int AGAIN = -5;
    private static final int WAIT = -6;
    private static final int NOTHING = -7;

    private static final int NONE = 0;
    private static final int OPEN = 1;
    private static final int LOCKING = 2;
    private static final int SETTLING = 3;
    private static final int UNDOING = 4;

    private static final int STEP_UNDONE = 0;
    private static final int STEP_ROW = 1;
    private static final int STEP_COMMITTED = 2;
    private static final int STEP_SETTLED = 3;
    private static final int STEP_LOST = 4;
    private static final int STEP_CLEANED = 5;

    private static final int COMMIT_BEGUN = 1;
    private static final int COMMIT_EMPTY = 3;

    /** In place of a value: the cell is DELETED. */
    private static final int DELETED = -1;
    /** In place of a WRITE's START: no ticket is 0. */
    private static final int ROLLED = 0;

    private final Table table;
    private final Oracle oracle;
    private final Transaction[] transactions;
    private int clock;
    private int patience;
    private int commits;

    public SnapRows() {
        table = new Table();
        oracle = new Oracle();
        transactions = new Transaction[CLIENTS];
        for (int i = 0; i < CLIENTS; i++) {
            transactions[i] = new Transaction();
        }
        patience = FIRST_TIMEOUT;
    }

    public int begin(int client) {
        if (!isClient(client)) {
            return NO_SUCH;
        }
        Transaction own = transactions[client];
        if (own.phase != NONE) {
            own.touch(clock);
            return WRONG_STATE;
        }
        own.open(oracle.give(), clock);
        return own.start;
    }

    public int read(int client, int row, int column) {
        if (!isClient(client) || !isCell(row, column)) {
            return NO_SUCH;
        }
        Transaction own = transactions[client];
        own.touch(clock);
        if (own.phase != OPEN) {
            return WRONG_STATE;
        }
        int answer = look(own, cellIndex(row, column));
        table.putDownLog();
        return answer;
    }

    public int next(int client, int row) {
        if (!isClient(client) || !isRow(row)) {
            return NO_SUCH;
        }
        Transaction own = transactions[client];
        own.touch(clock);
        if (own.phase != OPEN) {
            return WRONG_STATE;
        }
        int answer = lookFrom(own, row);
        table.putDownLog();
        return answer;
    }

    public int write(int client, int row, int column, int value) {
        if (!isClient(client) || !isCell(row, column)) {
            return NO_SUCH;
        }
        Transaction own = transactions[client];
        own.touch(clock);
        if (value < DELETED) {
            return OUT_OF_RANGE;
        }
        if (own.phase != OPEN) {
            return WRONG_STATE;
        }
        return own.put(cellIndex(row, column), value) ? own.size : NO_ROOM;
    }

    public int commit(int client) {
        if (!isClient(client)) {
            return NO_SUCH;
        }
        Transaction own = transactions[client];
        own.touch(clock);
        if (own.phase != OPEN) {
            return WRONG_STATE;
        }
        if (own.size == 0) {
            own.end();
            return COMMIT_EMPTY;
        }
        own.phase = LOCKING;
        return COMMIT_BEGUN;
    }

    public int step(int client) {
        if (!isClient(client)) {
            return NO_SUCH;
        }
        Transaction own = transactions[client];
        own.touch(clock);
        int answer = goOn(own);
        table.putDownLog();
        return answer;
    }

    public int crash(int client) {
        if (!isClient(client)) {
            return NO_SUCH;
        }
        Transaction own = transactions[client];
        int had = own.phase == NONE ? 0 : 1;
        own.end();
        return had;
    }

    public int tick(int n) {
        if (!isTime(n) || n > LAST_TIME - clock) {
            return OUT_OF_RANGE;
        }
        clock += n;
        return clock;
    }

    public int timeout(int n) {
        if (!isTime(n)) {
            return OUT_OF_RANGE;
        }
        int before = patience;
        patience = n;
        return before;
    }

    public int fallOracle() {
        return oracle.restart();
    }

    /** Only the counts of the store can be seen from outside, and a fall changes none of them. */
    public int fall() {
        return table.lines;
    }

    public int sweep(int ticket) {
        if (ticket < 0 || ticket > oracle.given) {
            return OUT_OF_RANGE;
        }
        if (isBeginBelow(ticket) || table.hasLockNotAbove(ticket)) {
            return WRONG_STATE;
        }
        int went = table.dropUnseen(ticket);
        table.putDownLog();
        return went;
    }

    public int state(int client, int what) {
        if (!isClient(client)) {
            return NO_SUCH;
        }
        Transaction own = transactions[client];
        switch (what) {
            case 0:
                return own.phase;
            case 1:
                return own.start;
            case 2:
                return own.last;
            case 3:
                return own.size;
            case 4:
                return own.rowsDone;
            case 5:
                return own.ticket;
            default:
                return OUT_OF_RANGE;
        }
    }

    public int lock(int row, int column, int what) {
        if (!isCell(row, column)) {
            return NO_SUCH;
        }
        Cell cell = table.cells[cellIndex(row, column)];
        switch (what) {
            case 0:
                return cell.lockStart;
            case 1:
                return cell.lockPrimary;
            case 2:
                return cell.lockTime;
            case 3:
                return cell.isLocked() && isLate(cell) ? 1 : 0;
            case 4:
                return cell.isLocked() && table.isDecided(cell) ? 1 : 0;
            default:
                return OUT_OF_RANGE;
        }
    }

    public int versions(int row, int column) {
        if (!isCell(row, column)) {
            return NO_SUCH;
        }
        return Entry.count(table.cells[cellIndex(row, column)].writes);
    }

    public int version(int row, int column, int i, int what) {
        if (!isCell(row, column)) {
            return NO_SUCH;
        }
        Cell cell = table.cells[cellIndex(row, column)];
        Entry found = Entry.atPlace(cell.writes, i);
        if (found == null) {
            return NO_SUCH;
        }
        switch (what) {
            case 0:
                return found.key;
            case 1:
                return found.info;
            case 2:
                return found.info == ROLLED ? 0 : cell.valueOf(found.info);
            default:
                return OUT_OF_RANGE;
        }
    }

    public int data(int row, int column, int what) {
        if (!isCell(row, column)) {
            return NO_SUCH;
        }
        Entry top = table.cells[cellIndex(row, column)].values;
        switch (what) {
            case 0:
                return Entry.count(top);
            case 1:
                return top == null ? 0 : top.key;
            default:
                return OUT_OF_RANGE;
        }
    }

    public int told(int what) {
        switch (what) {
            case 0:
                return oracle.given;
            case 1:
                return oracle.limit;
            case 2:
                return table.records;
            case 3:
                return table.lines;
            case 4:
                return table.runs;
            case 5:
                return table.merges;
            case 6:
                return clock;
            case 7:
                return commits;
            case 8:
                return table.cleanings;
            default:
                return OUT_OF_RANGE;
        }
    }

    private static boolean isClient(int client) {
        return client >= 0 && client < CLIENTS;
    }

    private static boolean isRow(int row) {
        return row >= 0 && row < ROWS;
    }

    private static boolean isCell(int row, int column) {
        return isRow(row) && column >= 0 && column < COLUMNS;
    }

    private static boolean isTime(int n) {
        return n >= 0 && n <= LONGEST_TIME;
    }

    private static int cellIndex(int row, int column) {
        return COLUMNS * row + column;
    }

    /** What a transaction SEES in a cell, or why it sees nothing there. */
    private int look(Transaction own, int index) {
        int place = own.placeOf(index);
        if (place >= 0) {
            return own.values[place] == DELETED ? NOTHING : own.values[place];
        }
        Cell cell = table.cells[index];
        if (cell.isLocked() && cell.lockStart < own.start) {
            if (!isForCleaning(cell)) {
                return WAIT;
            }
            table.clean(cell);
            return AGAIN;
        }
        int value = cell.valueAt(own.start);
        return value == DELETED ? NOTHING : value;
    }

    private int lookFrom(Transaction own, int firstRow) {
        for (int index = cellIndex(firstRow, 0); index < ROWS * COLUMNS; index++) {
            int found = look(own, index);
            if (found >= 0) {
                return index / COLUMNS;
            }
            if (found != NOTHING) {
                return found;
            }
        }
        return NOTHING;
    }

    /** A LOCK that is neither DECIDED nor LATE belongs to a transaction that may well commit: it stays. */
    private boolean isForCleaning(Cell cell) {
        return table.isDecided(cell) || isLate(cell);
    }

    private boolean isLate(Cell cell) {
        for (int i = 0; i < CLIENTS; i++) {
            Transaction other = transactions[i];
            if (other.phase != NONE && other.start == cell.lockStart) {
                return clock - other.last > patience;
            }
        }
        return clock - cell.lockTime > patience;
    }

    private boolean isBeginBelow(int ticket) {
        for (int i = 0; i < CLIENTS; i++) {
            if (transactions[i].phase != NONE && transactions[i].start < ticket) {
                return true;
            }
        }
        return false;
    }

    private int goOn(Transaction own) {
        switch (own.phase) {
            case LOCKING:
                return own.rowsDone < own.rowCount ? lockRow(own) : decide(own);
            case SETTLING:
                return settleRow(own);
            case UNDOING:
                return undoRow(own);
            default:
                return WRONG_STATE;
        }
    }

    private int lockRow(Transaction own) {
        int first = cellIndex(own.rows[own.rowsDone], 0);
        int cells = 0;
        for (int index = first; index < first + COLUMNS; index++) {
            if (own.placeOf(index) < 0) {
                continue;
            }
            cells++;
            Cell cell = table.cells[index];
            if (cell.writes != null && cell.writes.key >= own.start) {
                return lose(own);
            }
            if (cell.isLocked()) {
                if (!isForCleaning(cell)) {
                    return lose(own);
                }
                table.clean(cell);
                return STEP_CLEANED;
            }
        }
        if (table.records + cells * (1 + RECORDS_OF_A_LOCK) > MOST_RECORDS) {
            return NO_ROOM;
        }
        for (int index = first; index < first + COLUMNS; index++) {
            int place = own.placeOf(index);
            if (place >= 0) {
                table.addData(table.cells[index], own.start, own.values[place]);
                table.addLock(table.cells[index], own.start, own.cells[0], clock);
            }
        }
        own.rowsDone++;
        return STEP_ROW;
    }

    private int lose(Transaction own) {
        own.phase = UNDOING;
        own.rowsDone = 0;
        return STEP_LOST;
    }

    /** The ticket is spent also when the PRIMARY's LOCK is gone: the oracle gives it before that is looked at. */
    private int decide(Transaction own) {
        int ticket = oracle.give();
        if (table.cells[own.cells[0]].lockStart != own.start) {
            return lose(own);
        }
        own.ticket = ticket;
        commits++;
        own.phase = SETTLING;
        settleCells(own, own.rows[0]);
        own.rowsDone = 1;
        if (own.rowCount == 1) {
            own.end();
        }
        return STEP_COMMITTED;
    }

    private int settleRow(Transaction own) {
        if (own.rowsDone < own.rowCount) {
            settleCells(own, own.rows[own.rowsDone]);
            own.rowsDone++;
        }
        if (own.rowsDone < own.rowCount) {
            return STEP_ROW;
        }
        own.end();
        return STEP_SETTLED;
    }

    /** Others may have cleaned some of the cells before: those have their WRITE already. */
    private void settleCells(Transaction own, int row) {
        for (int column = 0; column < COLUMNS; column++) {
            Cell cell = table.cells[cellIndex(row, column)];
            if (own.hasLockIn(cell)) {
                table.addWrite(cell, own.ticket, own.start);
                table.dropLock(cell);
            }
        }
    }

    private int undoRow(Transaction own) {
        for (int i = 0; i < own.rowCount; i++) {
            if (undoCells(own, own.rows[i])) {
                return STEP_ROW;
            }
        }
        own.end();
        return STEP_UNDONE;
    }

    private boolean undoCells(Transaction own, int row) {
        boolean found = false;
        for (int column = 0; column < COLUMNS; column++) {
            int index = cellIndex(row, column);
            Cell cell = table.cells[index];
            if (own.hasLockIn(cell)) {
                table.undo(cell, index == own.cells[0]);
                found = true;
            }
        }
        return found;
    }

    /** Gives tickets; those up to the limit are never given again after a fall. */
    private static final class Oracle {
        private int given;
        private int coming = 1;
        private int limit;

        int give() {
            if (coming > limit) {
                limit += TICKETS_AT_ONCE;
            }
            given = coming;
            coming++;
            return given;
        }

        int restart() {
            coming = limit + 1;
            return coming;
        }
    }

    /** What one client has under way; one for each client is made once and used for all its transactions. */
    private static final class Transaction {
        private int phase;
        private int start;
        private int last;
        private int ticket;
        private int size;
        private final int[] cells = new int[MOST_OWN_WRITES];
        private final int[] values = new int[MOST_OWN_WRITES];
        private int rowCount;
        private final int[] rows = new int[MOST_OWN_WRITES];
        private int rowsDone;

        void open(int newStart, int now) {
            phase = OPEN;
            start = newStart;
            last = now;
        }

        /** A client without a transaction has 0 everywhere, which is what it answers when it is asked. */
        void end() {
            phase = NONE;
            start = 0;
            last = 0;
            ticket = 0;
            size = 0;
            rowCount = 0;
            rowsDone = 0;
        }

        void touch(int now) {
            if (phase != NONE) {
                last = now;
            }
        }

        int placeOf(int index) {
            for (int i = 0; i < size; i++) {
                if (cells[i] == index) {
                    return i;
                }
            }
            return -1;
        }

        boolean put(int index, int value) {
            int place = placeOf(index);
            if (place >= 0) {
                values[place] = value;
                return true;
            }
            if (size >= MOST_OWN_WRITES) {
                return false;
            }
            cells[size] = index;
            values[size] = value;
            size++;
            putRow(index / COLUMNS);
            return true;
        }

        private void putRow(int row) {
            for (int i = 0; i < rowCount; i++) {
                if (rows[i] == row) {
                    return;
                }
            }
            if (rowCount < MOST_OWN_WRITES) {
                rows[rowCount] = row;
                rowCount++;
            }
        }

        boolean hasLockIn(Cell cell) {
            return cell.lockStart == start;
        }
    }

    /**
     * One DATA (by its START: a value or DELETED) or one WRITE (by its ticket: a START or ROLLED) of a cell. They hang
     * below one another, the greatest key on top. A new one always belongs there: a LOCK, without which none comes, is
     * put only where all WRITES, and so all DATA, are older than its START, and while it stands no other transaction's
     * come.
     */
    private static final class Entry {
        private final int key;
        private final int info;
        private Entry below;

        Entry(int key, int info, Entry below) {
            this.key = key;
            this.info = info;
            this.below = below;
        }

        /** The chain without an entry that is in it: its top. */
        static Entry without(Entry top, Entry gone) {
            if (top == gone) {
                return gone.below;
            }
            for (Entry e = top; e != null; e = e.below) {
                if (e.below == gone) {
                    e.below = gone.below;
                    return top;
                }
            }
            return top;
        }

        static Entry withKey(Entry top, int key) {
            for (Entry e = top; e != null; e = e.below) {
                if (e.key == key) {
                    return e;
                }
            }
            return null;
        }

        static Entry withInfo(Entry top, int info) {
            for (Entry e = top; e != null; e = e.below) {
                if (e.info == info) {
                    return e;
                }
            }
            return null;
        }

        static Entry atPlace(Entry top, int place) {
            int i = 0;
            for (Entry e = top; e != null; e = e.below) {
                if (i == place) {
                    return e;
                }
                i++;
            }
            return null;
        }

        static int count(Entry top) {
            int n = 0;
            for (Entry e = top; e != null; e = e.below) {
                n++;
            }
            return n;
        }
    }

    /** A START of 0 in the lock says that there is none: no ticket is 0. */
    private static final class Cell {
        private Entry values;
        private Entry writes;
        private int lockStart;
        private int lockPrimary;
        private int lockTime;

        boolean isLocked() {
            return lockStart != 0;
        }

        int valueOf(int start) {
            Entry found = Entry.withKey(values, start);
            return found == null ? DELETED : found.info;
        }

        /** What counts at a ticket; no WRITE is the same as DELETED for who reads. */
        int valueAt(int ticket) {
            for (Entry e = writes; e != null; e = e.below) {
                if (e.key <= ticket && e.info != ROLLED) {
                    return valueOf(e.info);
                }
            }
            return DELETED;
        }
    }

    /** The cells, and the counts of what came and went in them. */
    private static final class Table {
        private final Cell[] cells = new Cell[ROWS * COLUMNS];
        private int records;
        private int lines;
        private int runs;
        private int merges;
        private int cleanings;

        Table() {
            for (int i = 0; i < ROWS * COLUMNS; i++) {
                cells[i] = new Cell();
            }
        }

        void addData(Cell cell, int start, int value) {
            cell.values = new Entry(start, value, cell.values);
            addLine(1);
        }

        void dropData(Cell cell, int start) {
            Entry gone = Entry.withKey(cell.values, start);
            if (gone != null) {
                cell.values = Entry.without(cell.values, gone);
                addLine(-1);
            }
        }

        void addWrite(Cell cell, int ticket, int start) {
            cell.writes = new Entry(ticket, start, cell.writes);
            addLine(1);
        }

        private void dropWrite(Cell cell, Entry gone) {
            cell.writes = Entry.without(cell.writes, gone);
            addLine(-1);
        }

        void addLock(Cell cell, int start, int primary, int time) {
            cell.lockStart = start;
            cell.lockPrimary = primary;
            cell.lockTime = time;
            addLine(RECORDS_OF_A_LOCK);
        }

        void dropLock(Cell cell) {
            cell.lockStart = 0;
            cell.lockPrimary = 0;
            cell.lockTime = 0;
            addLine(-RECORDS_OF_A_LOCK);
        }

        private void addLine(int newRecords) {
            records += newRecords;
            lines++;
        }

        /** Only at the end of a call: all lines of one call go into the same RUN. */
        void putDownLog() {
            if (lines < LINES_OF_A_RUN) {
                return;
            }
            lines = 0;
            runs++;
            if (runs == MOST_RUNS) {
                runs = 1;
                merges++;
            }
        }

        boolean isDecided(Cell cell) {
            return cells[cell.lockPrimary].lockStart != cell.lockStart;
        }

        /** While the PRIMARY's LOCK stands it is the one that goes, for it alone decides; the cell's own goes later. */
        void clean(Cell cell) {
            cleanings++;
            Cell primary = cells[cell.lockPrimary];
            if (!isDecided(cell)) {
                undo(primary, true);
                return;
            }
            Entry committed = Entry.withInfo(primary.writes, cell.lockStart);
            if (committed == null) {
                undo(cell, false);
                return;
            }
            addWrite(cell, committed.key, cell.lockStart);
            dropLock(cell);
        }

        /** Only the PRIMARY is marked ROLLED: it is the cell that decides. */
        void undo(Cell cell, boolean isPrimary) {
            int start = cell.lockStart;
            dropLock(cell);
            dropData(cell, start);
            if (isPrimary) {
                addWrite(cell, start, ROLLED);
            }
        }

        boolean hasLockNotAbove(int ticket) {
            for (int i = 0; i < ROWS * COLUMNS; i++) {
                if (cells[i].isLocked() && cells[i].lockStart <= ticket) {
                    return true;
                }
            }
            return false;
        }

        int dropUnseen(int ticket) {
            int before = records;
            for (int i = 0; i < ROWS * COLUMNS; i++) {
                dropUnseenOf(cells[i], ticket);
            }
            return before - records;
        }

        /** An entry keeps what is below it when it goes, so the walk goes on from there. */
        private void dropUnseenOf(Cell cell, int ticket) {
            boolean covered = false;
            for (Entry e = cell.writes; e != null; e = e.below) {
                if (e.key > ticket) {
                    continue;
                }
                if (e.info == ROLLED) {
                    dropWrite(cell, e);
                } else if (covered || cell.valueOf(e.info) == DELETED) {
                    covered = true;
                    dropWrite(cell, e);
                    dropData(cell, e.info);
                } else {
                    covered = true;
                }
            }
        }
    }
}
