/** Promise 1, sentence by sentence. */
public final class BoundaryNewObjectTest {
    private static final int STEP = 0x9E3779B9;
    private static final int[] SEEDS = {
        0, 1, -1, 2, 127, 128, 255, 65536, STEP, -STEP, -2 * STEP, -3 * STEP, -8 * STEP,
        Integer.MIN_VALUE, Integer.MIN_VALUE + 1, Integer.MAX_VALUE};

    public static void main(String[] args) {
        Sentences promise = new Sentences();
        promise.holds("1: No objects alive", BoundaryNewObjectTest::noObjectsAlive);
        promise.holds("1: all slots empty", BoundaryNewObjectTest::allSlotsEmpty);
        promise.holds("1: no requests yet", BoundaryNewObjectTest::noRequestsYet);
        promise.holds("1: the seed changes nothing that any call answers", BoundaryNewObjectTest::seed);
        promise.holds("1: a new object shares nothing with others", BoundaryNewObjectTest::sharesNothing);
        promise.finish();
    }

    private static void noObjectsAlive(Check check) {
        for (int seed : SEEDS) {
            CapabilityServer x = new CapabilityServer(seed);
            check.due("alive", x.alive(), 0);
            for (int object = 0; object < 8; object++) {
                check.due("every object can still be made", x.create(1, 0), object);
            }
        }
    }

    private static void allSlotsEmpty(Check check) {
        for (int seed : SEEDS) {
            CapabilityServer x = new CapabilityServer(seed);
            for (int place = 0; place < 16; place++) {
                int user = place >> 3;
                int slot = place & 7;
                check.due("rights", x.rights(user, slot), 0);
                check.due("genuine", x.genuine(user, slot), false);
                check.due("tamper", x.tamper(user, slot, 1), CapabilityServer.REFUSED);
                check.due("read", x.read(user, slot), CapabilityServer.REFUSED);
                check.due("clear", x.clear(user, slot), 0);
            }
        }
    }

    private static void noRequestsYet(Check check) {
        for (int seed : SEEDS) {
            CapabilityServer x = new CapabilityServer(seed);
            check.due("again(0)", x.again(0), CapabilityServer.LOST);
            check.due("again(1)", x.again(1), CapabilityServer.LOST);
        }
    }

    private static void seed(Check check) {
        String due = longRun(new CapabilityServer(12345));
        for (int seed : SEEDS) {
            check.due("the run with seed " + seed, longRun(new CapabilityServer(seed)), due);
        }
        // The run uses some thirty secrets: with one of these seeds each of them is 0 in its turn.
        for (int uses = 0; uses < 60; uses++) {
            int seed = -uses * STEP;
            check.due("the run with seed " + seed, longRun(new CapabilityServer(seed)), due);
        }
        for (int draw = -2000; draw < 2000; draw++) {
            int seed = draw * 715827883;
            check.due("the run with seed " + seed, longRun(new CapabilityServer(seed)), due);
        }
    }

    /** Within the 512 calls: every object is made, revoked and made again, and old ones are looked at. */
    private static String longRun(CapabilityServer x) {
        StringBuilder told = new StringBuilder();
        bareOne(x, told);
        for (int object = 0; object < 8; object++) {
            told.append(x.create(0, object)).append(' ');
            told.append(x.copy(0, object, 8 + object)).append(' ');
        }
        for (int object = 0; object < 8; object++) {
            told.append(x.restrict(0, object, object, 15 - object % 2)).append(' ');
            told.append(x.revoke(0, object)).append(' ').append(x.add(0, object, object)).append(' ');
            told.append(x.tamper(0, object, 16)).append(' ').append(x.genuine(0, object)).append(' ');
            told.append(x.tamper(0, object, 16)).append(' ').append(x.genuine(0, object)).append(' ');
            told.append(x.genuine(1, object)).append(' ');
        }
        for (int object = 0; object < 8; object++) {
            told.append(x.destroy(0, object)).append(' ').append(x.create(1, 0)).append(' ');
            told.append(x.genuine(0, object)).append(' ').append(x.again(0)).append(' ');
        }
        x.restart();
        return told.append(Scene.answers(x)).append(' ').append(Scene.things(x)).toString();
    }

    /** Object 0 without rights is where a capability has most bits 0, and must still be no empty slot. */
    private static void bareOne(CapabilityServer x, StringBuilder told) {
        told.append(x.create(1, 7)).append(' ').append(x.restrict(1, 7, 6, 0)).append(' ');
        told.append(x.tamper(1, 6, 0)).append(' ').append(x.tamper(1, 6, -128)).append(' ');
        told.append(x.tamper(1, 6, 0)).append(' ').append(x.genuine(1, 6)).append(' ');
        told.append(x.clear(1, 6)).append(' ').append(x.revoke(1, 7)).append(' ');
        told.append(x.destroy(1, 7)).append(' ').append(x.clear(1, 7)).append(' ');
    }

    private static void sharesNothing(Check check) {
        CapabilityServer used = Scene.full();
        CapabilityServer x = new CapabilityServer(77);
        check.due("alive", x.alive(), 0);
        check.due("rights", x.rights(0, 0), 0);
        check.due("again", x.again(0), CapabilityServer.LOST);
        x.create(0, 0);
        x.destroy(0, 0);
        x.restart();
        check.due("the used one's answers", Scene.answers(used), Scene.answers(Scene.full()));
        check.due("the used one", Scene.things(used), Scene.things(Scene.full()));
    }
}
