import java.util.ArrayList;
import java.util.HashSet;
import java.util.LinkedHashMap;
import java.util.LinkedHashSet;
import java.util.List;
import java.util.Map;
import java.util.Random;
import java.util.Set;
import java.util.TreeMap;

/**
 * Chance runs of 512 calls, each answer held against a model that is written from the document in another way: it keeps
 * the store's log and runs for real and has its whole table again out of them whenever the store falls.
 */
public final class ModelRuns {
    private static final int RUNS = 3000;
    private static final int CALLS = 512;

    public static void main(String[] args) {
        Set<String> met = new HashSet<>();
        for (int run = 0; run < RUNS; run++) {
            if (!agrees(run, met)) {
                System.exit(1);
            }
        }
        if (!areWild(met)) {
            System.exit(1);
        }
        System.out.println(RUNS + " runs agree with the model");
    }

    /** Runs in which some answer never comes would say little about it. */
    private static boolean areWild(Set<String> met) {
        String[] expected = {"begin -1", "begin -3", "read -1", "read -3", "read -5", "read -6", "read -7", "next -1",
            "next -3", "next -5", "next -6", "next -7", "write -1", "write -2", "write -3", "write -4", "commit -1",
            "commit -3", "commit 1", "commit 3", "step -1", "step -3", "step 0", "step 1", "step 2", "step 3", "step 4",
            "step 5", "crash -1", "crash 0", "crash 1", "tick -2", "timeout -2", "sweep -2", "sweep -3", "sweep 0",
            "sweep 1", "sweep 2"};
        boolean all = true;
        for (String answer : expected) {
            if (!met.contains(answer)) {
                System.out.println("the runs are too tame: there was no " + answer);
                all = false;
            }
        }
        return all;
    }

    private static boolean agrees(int seed, Set<String> met) {
        Random chance = new Random(seed);
        SnapRows program = new SnapRows();
        Model model = new Model();
        Maker maker = new Maker(chance, seed);
        List<String> said = new ArrayList<>();
        for (int i = 0; i < CALLS; i++) {
            int[] call = maker.call(model);
            int got = Calls.ask(program, call);
            int want = model.ask(call);
            said.add(Calls.text(call) + " -> " + want);
            if (want <= 5) {
                met.add(Calls.name(call) + " " + want);
            }
            if (got != want) {
                said.forEach(System.out::println);
                System.out.println("run " + seed + ", call " + i + ": answered " + got + ", the model says " + want);
                return false;
            }
        }
        return true;
    }

    /** Makes calls in which clients meet in few cells, with some wrong arguments among them. */
    private static final class Maker {
        private final Random chance;
        private final int rows;
        private final int columns;
        private final int clients;
        private final int wrongs;
        private final int questions;

        Maker(Random chance, int seed) {
            this.chance = chance;
            rows = 1 + seed % 7;
            columns = 1 + seed / 7 % 4;
            clients = 2 + seed % 5;
            wrongs = seed % 3 == 0 ? 20 : 200;
            questions = seed % 2 == 0 ? 15 : 40;
        }

        private int some(int bound) {
            return chance.nextInt(bound);
        }

        private int wrongOr(int right, int top) {
            if (some(wrongs) != 0) {
                return right;
            }
            int[] wrong = {-1, top, Integer.MAX_VALUE, Integer.MIN_VALUE, top - 1};
            return wrong[some(wrong.length)];
        }

        private int client() {
            return wrongOr(some(clients), 8);
        }

        private int anyRow() {
            return wrongOr(Math.min(63, 57 + some(rows)), 64);
        }

        private int column() {
            return wrongOr(some(columns), 4);
        }

        int[] call(Model model) {
            if (some(100) < questions) {
                return question();
            }
            int kind = some(200);
            if (kind < 3) {
                return new int[] {6, client()};
            }
            if (kind < 16) {
                return new int[] {7, wrongOr(some(8) == 0 ? some(30) : some(3), 100001)};
            }
            if (kind < 18) {
                return new int[] {8, wrongOr(some(20), 100001)};
            }
            if (kind < 21) {
                return new int[] {9};
            }
            if (kind < 26) {
                return new int[] {10};
            }
            if (kind < 34) {
                return new int[] {11, sweepTicket(model)};
            }
            return ofClient(model, client());
        }

        private int sweepTicket(Model model) {
            int low = model.given;
            for (Model.Tx t : model.clients) {
                low = t == null ? low : Math.min(low, t.start);
            }
            for (Model.Lock l : model.locks.values()) {
                low = Math.min(low, l.start - some(2));
            }
            return some(3) == 0 ? model.given + some(8) - 5 : low - some(2);
        }

        private int[] ofClient(Model model, int client) {
            int state = client >= 0 && client < 8 && model.clients[client] != null ? model.clients[client].state : 0;
            if (some(12) == 0) {
                state = some(5);
            }
            if (state == 0) {
                return new int[] {0, client};
            }
            if (state > 1) {
                return new int[] {5, client};
            }
            int kind = some(14);
            if (kind < 4) {
                return new int[] {1, client, anyRow(), column()};
            }
            if (kind < 5) {
                return new int[] {2, client, some(4) == 0 ? wrongOr(some(64), 64) : anyRow()};
            }
            if (kind < 12) {
                int value = some(5) == 0 ? -1 : some(30) == 0 ? -2 : some(1000);
                return new int[] {3, client, anyRow(), column(), value};
            }
            return new int[] {4, client};
        }

        private int[] question() {
            switch (some(6)) {
                case 0:
                    return new int[] {12, client(), wrongOr(some(6), 6)};
                case 1:
                    return new int[] {13, anyRow(), column(), wrongOr(some(5), 5)};
                case 2:
                    return new int[] {14, anyRow(), column()};
                case 3:
                    return new int[] {15, anyRow(), column(), wrongOr(some(4), 4), wrongOr(some(3), 3)};
                case 4:
                    return new int[] {16, anyRow(), column(), wrongOr(some(2), 2)};
                default:
                    return new int[] {17, wrongOr(some(9), 9)};
            }
        }
    }

    private static final class Model {
        static final class Tx {
            int state = 1;
            int start;
            int last;
            int done;
            int ticket;
            final LinkedHashMap<Integer, Integer> own = new LinkedHashMap<>();

            List<Integer> rows() {
                LinkedHashSet<Integer> rows = new LinkedHashSet<>();
                own.keySet().forEach(cell -> rows.add(cell / 4));
                return new ArrayList<>(rows);
            }

            int primary() {
                return own.keySet().iterator().next();
            }

            List<Integer> cellsOf(int row) {
                List<Integer> cells = new ArrayList<>();
                for (int cell = 4 * row; cell < 4 * row + 4; cell++) {
                    if (own.containsKey(cell)) {
                        cells.add(cell);
                    }
                }
                return cells;
            }
        }

        record Lock(int start, int primary, int time) { }

        /** kind 0 DATA, 1 LOCK, 2 WRITE; what comes or goes. */
        record Line(boolean comes, int kind, int cell, int key, int info, Lock lock) { }

        final Tx[] clients = new Tx[8];
        Map<Integer, TreeMap<Integer, Integer>> data = new TreeMap<>();
        Map<Integer, TreeMap<Integer, Integer>> writes = new TreeMap<>();
        Map<Integer, Lock> locks = new TreeMap<>();
        List<Line> log = new ArrayList<>();
        final List<List<Line>> runs = new ArrayList<>();
        int merges;
        int given;
        int coming = 1;
        int limit;
        int clock;
        int timeout = 10;
        int twos;
        int cleaned;

        int ask(int[] c) {
            int answer = answer(c);
            if (log.size() >= 64) {
                runs.add(log);
                log = new ArrayList<>();
                if (runs.size() == 4) {
                    List<Line> one = new ArrayList<>();
                    runs.forEach(one::addAll);
                    runs.clear();
                    runs.add(one);
                    merges++;
                }
            }
            return answer;
        }

        private static boolean in(int n, int bound) {
            return 0 <= n && n < bound;
        }

        private int answer(int[] c) {
            int kind = c[0];
            if (kind <= 6 || kind == 12) {
                if (!in(c[1], 8)) {
                    return -1;
                }
                if (kind >= 1 && kind <= 3 && !in(c[2], 64) || (kind == 1 || kind == 3) && !in(c[3], 4)) {
                    return -1;
                }
                Tx t = clients[c[1]];
                if (kind <= 5 && t != null) {
                    t.last = clock;
                }
                return ofClient(c, t);
            }
            if (kind >= 13 && kind <= 16) {
                return in(c[1], 64) && in(c[2], 4) ? ofCell(c, 4 * c[1] + c[2]) : -1;
            }
            switch (kind) {
                case 7:
                    if (!in(c[1], 100001) || (long) clock + c[1] > Integer.MAX_VALUE) {
                        return -2;
                    }
                    return clock += c[1];
                case 8:
                    if (!in(c[1], 100001)) {
                        return -2;
                    }
                    int was = timeout;
                    timeout = c[1];
                    return was;
                case 9:
                    return coming = limit + 1;
                case 10:
                    rebuild();
                    return log.size();
                case 11:
                    return sweep(c[1]);
                default:
                    return told(c[1]);
            }
        }

        private int ofClient(int[] c, Tx t) {
            boolean open = t != null && t.state == 1;
            switch (c[0]) {
                case 0:
                    if (t != null) {
                        return -3;
                    }
                    t = new Tx();
                    t.start = ticket();
                    t.last = clock;
                    clients[c[1]] = t;
                    return t.start;
                case 1:
                    return open ? see(t, 4 * c[2] + c[3]) : -3;
                case 2:
                    return open ? next(t, c[2]) : -3;
                case 3:
                    int cell = 4 * c[2] + c[3];
                    if (c[4] < -1) {
                        return -2;
                    }
                    if (!open) {
                        return -3;
                    }
                    if (t.own.size() == 16 && !t.own.containsKey(cell)) {
                        return -4;
                    }
                    t.own.put(cell, c[4]);
                    return t.own.size();
                case 4:
                    if (!open) {
                        return -3;
                    }
                    if (t.own.isEmpty()) {
                        clients[c[1]] = null;
                        return 3;
                    }
                    t.state = 2;
                    return 1;
                case 5:
                    return t == null || open ? -3 : step(c[1], t);
                case 6:
                    clients[c[1]] = null;
                    return t == null ? 0 : 1;
                default:
                    if (!in(c[2], 6)) {
                        return -2;
                    }
                    if (t == null) {
                        return 0;
                    }
                    int done = t.state == 2 || t.state == 3 ? t.done : 0;
                    return new int[] {t.state, t.start, t.last, t.own.size(), done, t.ticket}[c[2]];
            }
        }

        private int ofCell(int[] c, int cell) {
            Lock lock = locks.get(cell);
            TreeMap<Integer, Integer> w = writes.getOrDefault(cell, new TreeMap<>());
            TreeMap<Integer, Integer> d = data.getOrDefault(cell, new TreeMap<>());
            switch (c[0]) {
                case 13:
                    if (!in(c[3], 5)) {
                        return -2;
                    }
                    if (lock == null) {
                        return 0;
                    }
                    return new int[] {lock.start, lock.primary, lock.time, late(lock) ? 1 : 0, decided(lock) ? 1 : 0}[c[3]];
                case 14:
                    return w.size();
                case 15:
                    if (!in(c[3], w.size())) {
                        return -1;
                    }
                    if (!in(c[4], 3)) {
                        return -2;
                    }
                    int key = new ArrayList<>(w.descendingKeySet()).get(c[3]);
                    return new int[] {key, w.get(key), w.get(key) == 0 ? 0 : d.get(w.get(key))}[c[4]];
                default:
                    if (!in(c[3], 2)) {
                        return -2;
                    }
                    return c[3] == 0 ? d.size() : d.isEmpty() ? 0 : d.lastKey();
            }
        }

        private int told(int what) {
            if (!in(what, 9)) {
                return -2;
            }
            return new int[] {given, limit, records(), log.size(), runs.size(), merges, clock, twos, cleaned}[what];
        }

        private int records() {
            int n = 2 * locks.size();
            for (TreeMap<Integer, Integer> w : writes.values()) {
                n += w.size();
            }
            for (TreeMap<Integer, Integer> d : data.values()) {
                n += d.size();
            }
            return n;
        }

        private int ticket() {
            limit = coming > limit ? limit + 16 : limit;
            return given = coming++;
        }

        private boolean late(Lock lock) {
            for (Tx t : clients) {
                if (t != null && t.start == lock.start) {
                    return clock - t.last > timeout;
                }
            }
            return clock - lock.time > timeout;
        }

        private boolean holds(int cell, int start) {
            return locks.containsKey(cell) && locks.get(cell).start == start;
        }

        private boolean decided(Lock lock) {
            return !holds(lock.primary, lock.start);
        }

        private void say(boolean comes, int kind, int cell, int key, int info, Lock lock) {
            Line line = new Line(comes, kind, cell, key, info, lock);
            log.add(line);
            apply(line);
        }

        private void apply(Line l) {
            if (l.kind == 1) {
                if (l.comes == locks.containsKey(l.cell)) {
                    throw new IllegalStateException("a lock over a lock, or none to go");
                }
                if (l.comes) {
                    locks.put(l.cell, l.lock);
                } else {
                    locks.remove(l.cell);
                }
                return;
            }
            TreeMap<Integer, Integer> map = (l.kind == 0 ? data : writes).computeIfAbsent(l.cell, k -> new TreeMap<>());
            if (l.comes == map.containsKey(l.key)) {
                throw new IllegalStateException("one record over another, or none to go");
            }
            if (l.comes) {
                map.put(l.key, l.info);
            } else {
                map.remove(l.key);
            }
        }

        private void rebuild() {
            data = new TreeMap<>();
            writes = new TreeMap<>();
            locks = new TreeMap<>();
            runs.forEach(run -> run.forEach(this::apply));
            log.forEach(this::apply);
        }

        private void dataGoes(int cell, int start) {
            say(false, 0, cell, start, 0, null);
        }

        private void lockGoes(int cell) {
            say(false, 1, cell, 0, 0, null);
        }

        private void writeComes(int cell, int ticket, int start) {
            say(true, 2, cell, ticket, start, null);
        }

        private void clean(int x) {
            cleaned++;
            int s = locks.get(x).start;
            int p = locks.get(x).primary;
            if (holds(p, s)) {
                lockGoes(p);
                dataGoes(p, s);
                writeComes(p, s, 0);
                return;
            }
            for (Map.Entry<Integer, Integer> w : writes.getOrDefault(p, new TreeMap<>()).entrySet()) {
                if (w.getValue() == s) {
                    writeComes(x, w.getKey(), s);
                    lockGoes(x);
                    return;
                }
            }
            lockGoes(x);
            dataGoes(x, s);
        }

        private int see(Tx t, int cell) {
            if (t.own.containsKey(cell)) {
                return t.own.get(cell) == -1 ? -7 : t.own.get(cell);
            }
            Lock lock = locks.get(cell);
            if (lock != null && lock.start < t.start) {
                if (decided(lock) || late(lock)) {
                    clean(cell);
                    return -5;
                }
                return -6;
            }
            int value = -1;
            for (Map.Entry<Integer, Integer> w : writes.getOrDefault(cell, new TreeMap<>()).entrySet()) {
                if (w.getKey() <= t.start && w.getValue() != 0) {
                    value = data.get(cell).get(w.getValue());
                }
            }
            return value == -1 ? -7 : value;
        }

        private int next(Tx t, int from) {
            for (int row = from; row < 64; row++) {
                for (int column = 0; column < 4; column++) {
                    int seen = see(t, 4 * row + column);
                    if (seen != -7) {
                        return seen >= 0 ? row : seen;
                    }
                }
            }
            return -7;
        }

        private int step(int client, Tx t) {
            List<Integer> rows = t.rows();
            if (t.state == 2) {
                return t.done < rows.size() ? lockRow(t, t.cellsOf(rows.get(t.done))) : decide(client, t, rows);
            }
            if (t.state == 3) {
                for (int cell : t.cellsOf(rows.get(t.done))) {
                    if (holds(cell, t.start)) {
                        writeComes(cell, t.ticket, t.start);
                        lockGoes(cell);
                    }
                }
                t.done++;
                if (t.done == rows.size()) {
                    clients[client] = null;
                    return 3;
                }
                return 1;
            }
            for (int row : rows) {
                boolean any = false;
                for (int cell : t.cellsOf(row)) {
                    if (holds(cell, t.start)) {
                        any = true;
                        lockGoes(cell);
                        dataGoes(cell, t.start);
                        if (cell == t.primary()) {
                            writeComes(cell, t.start, 0);
                        }
                    }
                }
                if (any) {
                    return 1;
                }
            }
            clients[client] = null;
            return 0;
        }

        private int lockRow(Tx t, List<Integer> cells) {
            for (int cell : cells) {
                if (!writes.getOrDefault(cell, new TreeMap<>()).tailMap(t.start).isEmpty()) {
                    t.state = 4;
                    return 4;
                }
                Lock lock = locks.get(cell);
                if (lock != null) {
                    if (decided(lock) || late(lock)) {
                        clean(cell);
                        return 5;
                    }
                    t.state = 4;
                    return 4;
                }
            }
            for (int cell : cells) {
                say(true, 0, cell, t.start, t.own.get(cell), null);
                say(true, 1, cell, 0, 0, new Lock(t.start, t.primary(), clock));
            }
            t.done++;
            return 1;
        }

        private int decide(int client, Tx t, List<Integer> rows) {
            int k = ticket();
            if (!holds(t.primary(), t.start)) {
                t.state = 4;
                return 4;
            }
            for (int cell : t.cellsOf(rows.get(0))) {
                writeComes(cell, k, t.start);
                lockGoes(cell);
            }
            t.ticket = k;
            t.state = 3;
            t.done = 1;
            twos++;
            if (rows.size() == 1) {
                clients[client] = null;
            }
            return 2;
        }

        private int sweep(int ticket) {
            if (ticket < 0 || ticket > given) {
                return -2;
            }
            for (Tx t : clients) {
                if (t != null && t.start < ticket) {
                    return -3;
                }
            }
            for (Lock lock : locks.values()) {
                if (lock.start <= ticket) {
                    return -3;
                }
            }
            int before = records();
            for (int cell : new ArrayList<>(writes.keySet())) {
                TreeMap<Integer, Integer> low = new TreeMap<>(writes.get(cell).headMap(ticket, true));
                int greatest = 0;
                for (Map.Entry<Integer, Integer> w : low.entrySet()) {
                    greatest = w.getValue() == 0 ? greatest : w.getKey();
                }
                for (Map.Entry<Integer, Integer> w : low.entrySet()) {
                    boolean rolled = w.getValue() == 0;
                    if (!rolled && w.getKey() == greatest && data.get(cell).get(w.getValue()) != -1) {
                        continue;
                    }
                    say(false, 2, cell, w.getKey(), 0, null);
                    if (!rolled) {
                        dataGoes(cell, w.getValue());
                    }
                }
            }
            return before - records();
        }
    }
}
