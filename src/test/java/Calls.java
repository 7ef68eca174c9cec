import java.util.List;

/** The calls of the face as rows of numbers: which call, and its arguments. */
final class Calls {
    static final int BEGIN = 0;
    static final int READ = 1;
    static final int NEXT = 2;
    static final int WRITE = 3;
    static final int COMMIT = 4;
    static final int STEP = 5;
    static final int CRASH = 6;
    static final int TICK = 7;
    static final int TIMEOUT = 8;
    static final int FALL_ORACLE = 9;
    static final int FALL = 10;
    static final int SWEEP = 11;
    static final int STATE = 12;
    static final int LOCK = 13;
    static final int VERSIONS = 14;
    static final int VERSION = 15;
    static final int DATA = 16;
    static final int TOLD = 17;

    private static final String[] NAMES = {"begin", "read", "next", "write", "commit", "step", "crash", "tick", "timeout",
        "fallOracle", "fall", "sweep", "state", "lock", "versions", "version", "data", "told"};

    private Calls() {
    }

    /** A call out of its name and its arguments as they stand in a program. */
    static int[] of(String name, String arguments) {
        String[] parts = arguments.isBlank() ? new String[0] : arguments.split(",");
        int[] call = new int[1 + parts.length];
        call[0] = List.of(NAMES).indexOf(name);
        for (int i = 0; i < parts.length; i++) {
            call[1 + i] = Integer.parseInt(parts[i].trim());
        }
        return call;
    }

    static String name(int[] call) {
        return NAMES[call[0]];
    }

    static String text(int[] call) {
        StringBuilder b = new StringBuilder(name(call)).append('(');
        for (int i = 1; i < call.length; i++) {
            b.append(i == 1 ? "" : ", ").append(call[i]);
        }
        return b.append(')').toString();
    }

    static int ask(SnapRows x, int[] c) {
        return switch (c[0]) {
            case BEGIN -> x.begin(c[1]);
            case READ -> x.read(c[1], c[2], c[3]);
            case NEXT -> x.next(c[1], c[2]);
            case WRITE -> x.write(c[1], c[2], c[3], c[4]);
            case COMMIT -> x.commit(c[1]);
            case STEP -> x.step(c[1]);
            case CRASH -> x.crash(c[1]);
            case TICK -> x.tick(c[1]);
            case TIMEOUT -> x.timeout(c[1]);
            case FALL_ORACLE -> x.fallOracle();
            case FALL -> x.fall();
            case SWEEP -> x.sweep(c[1]);
            case STATE -> x.state(c[1], c[2]);
            case LOCK -> x.lock(c[1], c[2], c[3]);
            case VERSIONS -> x.versions(c[1], c[2]);
            case VERSION -> x.version(c[1], c[2], c[3], c[4]);
            case DATA -> x.data(c[1], c[2], c[3]);
            case TOLD -> x.told(c[1]);
            default -> throw new IllegalArgumentException("no such call");
        };
    }
}
