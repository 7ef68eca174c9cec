import java.util.Random;

/**
 * Edges that no 512 calls reach: the document leaves the answers behind those free, and this program keeps to the same
 * words there. Each sentence has a test of its own.
 */
public final class LongRunTests {
    private static final int MAX = Integer.MAX_VALUE;
    private static final int MIN = Integer.MIN_VALUE;

    public static void main(String[] args) {
        clockUpToItsEnd();
        lateAtTheClocksEnd();
        recordsUpTo3000();
        recordsOfARowBeyond3000();
        callsWithoutEnd();
        Trial.endAll();
    }

    private static Trial nearTheClocksEnd() {
        Trial x = Trial.endless();
        for (int i = 1; i <= 21474; i++) {
            x.tick(100000).is(100000 * i);
        }
        return x;
    }

    private static void clockUpToItsEnd() {
        Trial.of("tick: -2 .. or it would be above 2^31 - 1");
        Trial x = nearTheClocksEnd();
        x.told(6).is(2147400000);
        x.tick(100000).is(-2);
        x.tick(83648).is(-2);
        x.told(6).is(2147400000);
        x.tick(83647).is(MAX);
        x.tick(1).is(-2);
        x.tick(100000).is(-2);
        x.tick(-1).is(-2);
        x.tick(0).is(MAX);
        x.told(6).is(MAX);
    }

    private static void lateAtTheClocksEnd() {
        Trial.of("the clock less LAST is more than the TIMEOUT: at the clock's end, too");
        Trial x = Trial.endless();
        x.timeout(100000);
        x.prepare(0, 1, 0, 5);
        x.steps(0, 1);
        x.prepare(1, 2, 0, 5);
        x.steps(1, 1);
        x.crash(1);
        for (int i = 0; i < 21474; i++) {
            x.tick(100000);
        }
        x.tick(83647).is(MAX);
        x.lock(1, 0, 3).is(1);
        x.lock(2, 0, 3).is(1);
        x.begin(0).is(-3);
        x.state(0, 2).is(MAX);
        x.lock(1, 0, 3).is(0);
        x.steps(0, 2);
        x.prepare(2, 2, 0, 6);
        x.steps(2, 5, 1);
        x.lock(2, 0, 2).is(MAX);
    }

    /** 93 transactions of 16 cells leave 32 RECORDS each. */
    private static Trial with2976Records() {
        Trial x = Trial.endless();
        for (int i = 0; i < 93; i++) {
            x.putFourRows(0, 4 * (i % 14));
        }
        x.told(2).is(2976);
        return x;
    }

    private static void recordsUpTo3000() {
        Trial.of("There are at most 3000 RECORDS in all");
        Trial x = with2976Records();
        x.prepare(1, 60, 0, 1, 60, 1, 1, 60, 2, 1, 60, 3, 1, 61, 0, 1, 61, 1, 1, 61, 2, 1, 61, 3, 1);
        x.steps(1, 1, 1);
        x.told(2).is(3000);
        x.prepare(2, 62, 0, 1);
        x.steps(2, -4);
        x.steps(1, 2);
        x.told(2).is(2996);
        x.steps(2, 1);
        x.told(2).is(2999);
        x.prepare(3, 63, 0, 1);
        x.steps(3, -4);
        x.steps(2, 2);
        x.told(2).is(2998);
        x.steps(3, -4);
        x.steps(1, 3);
        x.told(2).is(2994);
        x.steps(3, 1, 2);
    }

    private static void recordsOfARowBeyond3000() {
        Trial.of("-4 if there would be more than 3000 RECORDS (nothing is done, but LAST)");
        Trial x = with2976Records();
        for (int i = 0; i < 9; i++) {
            x.put(0, 60, 0, i);
        }
        x.told(2).is(2994);
        x.told(3).is(36);
        x.prepare(1, 63, 0, 1, 63, 1, 2, 63, 2, 3);
        x.tick(1);
        x.steps(1, -4, -4);
        x.state(1, 0).is(2);
        x.state(1, 2).is(1);
        x.state(1, 4).is(0);
        x.told(2).is(2994);
        x.told(3).is(36);
        for (int column = 0; column < 3; column++) {
            x.lock(63, column, 0).is(0);
            x.data(63, column, 0).is(0);
        }
        x.prepare(2, 62, 0, 1, 62, 1, 2);
        x.steps(2, 1);
        x.told(2).is(3000);
        x.steps(2, 2);
        x.told(2).is(2998);
        x.crash(1);
        x.sweep(1).is(0);
        x.sweep(207).is(2544);
        x.told(2).is(454);
        x.prepare(1, 63, 0, 1, 63, 1, 2, 63, 2, 3);
        x.steps(1, 1, 2);
    }

    /** Wild arguments: among them those whose sums and products wrap around. */
    private static int wild(Random chance) {
        int[] some = {-2, -1, 0, 1, 2, 3, 4, 5, 7, 8, 62, 63, 64, 1 << 30, -(1 << 30), MAX, MIN};
        return some[chance.nextInt(some.length)];
    }

    private static int some(Random chance, int bound) {
        return chance.nextInt(50) == 0 ? wild(chance) : chance.nextInt(bound);
    }

    private static void callsWithoutEnd() {
        Trial.of("No call may ever throw or fail to end, for any arguments in any state");
        for (int seed = 0; seed < 20; seed++) {
            Random chance = new Random(seed);
            SnapRows x = new SnapRows();
            for (int i = 0; i < 20000; i++) {
                int kind = chance.nextInt(60);
                kind = kind < 18 ? kind : kind < 36 ? Calls.WRITE : kind < 56 ? Calls.STEP : kind < 58 ? Calls.COMMIT : Calls.BEGIN;
                boolean ofClient = kind <= Calls.CRASH || kind == Calls.STATE;
                int first = some(chance, ofClient ? 8 : 64);
                Calls.ask(x, new int[] {kind, first, some(chance, 4), some(chance, 4), wild(chance)});
            }
        }
    }
}
