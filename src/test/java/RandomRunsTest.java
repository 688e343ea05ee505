import java.util.Random;

/** All promises together: long runs of drawn calls, the same ones every time, against the model. */
public final class RandomRunsTest {
    private static final int RUNS = 6000;
    private static final int CALLS = 512;
    private static final Check check = new Check();

    private final Random random;
    private final CapabilityServer server;
    private final Model model = new Model();
    private final int slots;
    private final int oddOnes;

    private RandomRunsTest(int run) {
        random = new Random(run);
        server = new CapabilityServer(random.nextInt());
        // Few slots make calls meet each other; all slots let every object be held.
        slots = 1 + run % 8;
        oddOnes = run % 3 == 0 ? 10 : 200;
    }

    public static void main(String[] args) {
        for (int run = 0; run < RUNS && check.allAsDue(); run++) {
            RandomRunsTest test = new RandomRunsTest(run);
            for (int call = 1; call <= CALLS && check.allAsDue(); call++) {
                test.call("run " + run + ", call " + call + ": ");
            }
        }
        check.finish();
    }

    private int drawn(int bound) {
        if (random.nextInt(oddOnes) != 0) {
            return random.nextInt(bound);
        }
        return random.nextBoolean() ? random.nextInt() : random.nextInt(40) - 20;
    }

    private int bits() {
        // Single bits and repeats of them undo each other often enough to matter.
        return random.nextInt(3) == 0 ? drawn(128) : 1 << random.nextInt(7);
    }

    private int mask() {
        return random.nextInt(2) == 0 ? 15 : drawn(16);
    }

    private void call(String where) {
        int u = drawn(2);
        int s = drawn(slots);
        switch (random.nextInt(20)) {
            case 0, 1 -> check.due(where + "create", server.create(u, s), model.create(u, s));
            case 2, 3 -> check.due(where + "read", server.read(u, s), model.read(u, s));
            case 4, 5 -> add(where, u, s);
            case 6 -> check.due(where + "destroy", server.destroy(u, s), model.destroy(u, s));
            case 7 -> check.due(where + "revoke", server.revoke(u, s), model.revoke(u, s));
            case 8, 9 -> restrict(where, u, s);
            case 10 -> check.due(where + "again", server.again(u), model.again(u));
            case 11, 12 -> copy(where, u, s);
            case 13, 14 -> tamper(where, u, s);
            case 15 -> clear(where, u, s);
            case 16 -> restart();
            case 17 -> check.due(where + "genuine", server.genuine(u, s), model.genuine(u, s));
            case 18 -> check.due(where + "rights", server.rights(u, s), model.rights(u, s));
            default -> check.due(where + "alive", server.alive(), model.alive());
        }
    }

    private void add(String where, int u, int s) {
        int more = random.nextInt(4) == 0 ? random.nextInt() : random.nextInt(20) - 10;
        check.due(where + "add", server.add(u, s, more), model.add(u, s, more));
    }

    private void restrict(String where, int u, int s) {
        int to = drawn(slots);
        int rights = mask();
        check.due(where + "restrict", server.restrict(u, s, to, rights), model.restrict(u, s, to, rights));
    }

    private void copy(String where, int u, int s) {
        int to = random.nextInt(4) == 0 ? drawn(16) : drawn(2) * 8 + drawn(slots);
        check.due(where + "copy", server.copy(u, s, to), model.copy(u, s, to));
    }

    private void tamper(String where, int u, int s) {
        int bits = bits();
        check.due(where + "tamper", server.tamper(u, s, bits), model.tamper(u, s, bits));
    }

    private void clear(String where, int u, int s) {
        if (random.nextInt(3) == 0) {
            check.due(where + "clear", server.clear(u, s), model.clear(u, s));
        }
    }

    private void restart() {
        if (random.nextInt(3) == 0) {
            server.restart();
            model.restart();
        }
    }
}
