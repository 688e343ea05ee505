/** Promise 1 (a new object) and promises 13 to 15 (the calls that change nothing). */
public final class LooksTest {
    private static final Check check = new Check();
    private static final int[] BAD_USERS = {-1, 2, 3, 8, Integer.MIN_VALUE, Integer.MAX_VALUE};
    private static final int[] BAD_SLOTS = {-1, 8, 9, 15, 16, Integer.MIN_VALUE, Integer.MAX_VALUE};

    public static void main(String[] args) {
        newObject();
        seedChangesNoAnswer();
        genuine();
        genuineNeedsTheSameLife();
        genuineAfterChanges();
        rights();
        alive();
        looksAreNoRequests();
        check.finish();
    }

    private static void newObject() {
        CapabilityServer x = new CapabilityServer(7);
        check.due("new: alive", x.alive(), 0);
        for (int user = 0; user < 2; user++) {
            for (int slot = 0; slot < 8; slot++) {
                check.due("new: genuine", x.genuine(user, slot), false);
                check.due("new: rights", x.rights(user, slot), 0);
                check.due("new: tamper", x.tamper(user, slot, 0), CapabilityServer.REFUSED);
                check.due("new: clear", x.clear(user, slot), 0);
            }
            check.due("new: again", x.again(user), CapabilityServer.LOST);
            check.due("new: again twice", x.again(user), CapabilityServer.LOST);
        }
    }

    // These seeds would give a plain counter of secrets the value 0 early, or wrap it.
    private static void seedChangesNoAnswer() {
        int step = 0x9E3779B9;
        int[] seeds = {0, 1, -1, -step, -2 * step, Integer.MIN_VALUE, Integer.MAX_VALUE, 12345};
        for (int seed : seeds) {
            CapabilityServer x = new CapabilityServer(seed);
            String run = "seed " + seed + ": ";
            check.due(run + "create", x.create(0, 0), 0);
            check.due(run + "empty is not genuine", x.genuine(0, 1), false);
            check.due(run + "empty is refused", x.read(1, 0), CapabilityServer.REFUSED);
            check.due(run + "one without rights", x.restrict(0, 0, 2, 0), 0);
            check.due(run + "is genuine", x.genuine(0, 2), true);
            check.due(run + "is no empty slot", x.clear(0, 2), 1);
            check.due(run + "create", x.create(1, 0), 1);
            check.due(run + "genuine", x.genuine(1, 0), true);
            check.due(run + "copy", x.copy(0, 0, 9), 0);
            check.due(run + "revoke", x.revoke(0, 0), 0);
            check.due(run + "revoked", x.genuine(1, 1), false);
            check.due(run + "the new one", x.genuine(0, 0), true);
            check.due(run + "the other object", x.genuine(1, 0), true);
        }
    }

    private static void genuine() {
        CapabilityServer x = new CapabilityServer(1);
        for (int slot = 0; slot < 8; slot++) {
            x.create(slot & 1, slot);
            check.due("genuine after create", x.genuine(slot & 1, slot), true);
            check.due("genuine of the other user", x.genuine(1 - (slot & 1), slot), false);
        }
        for (int user : BAD_USERS) {
            check.due("genuine, bad user", x.genuine(user, 0), false);
        }
        for (int slot : BAD_SLOTS) {
            check.due("genuine, bad slot", x.genuine(0, slot), false);
            check.due("genuine, bad slot", x.genuine(1, slot), false);
        }
    }

    private static void genuineNeedsTheSameLife() {
        CapabilityServer x = new CapabilityServer(1);
        x.create(0, 0);
        x.copy(0, 0, 8);
        x.destroy(0, 0);
        check.due("genuine after destroy", x.genuine(0, 0), false);
        check.due("genuine copy after destroy", x.genuine(1, 0), false);
        check.due("made again", x.create(0, 1), 0);
        check.due("the old one stays lost", x.genuine(0, 0), false);
        check.due("the old copy stays lost", x.genuine(1, 0), false);
        check.due("the new one", x.genuine(0, 1), true);
    }

    private static void genuineAfterChanges() {
        CapabilityServer x = new CapabilityServer(1);
        x.create(0, 0);
        x.create(0, 1);
        for (int bits = 1; bits < 128; bits++) {
            x.tamper(0, 0, bits);
            check.due("genuine after tamper " + bits, x.genuine(0, 0), false);
            x.tamper(0, 0, bits);
            check.due("genuine after undoing " + bits, x.genuine(0, 0), true);
        }
        CapabilityServer y = new CapabilityServer(1);
        y.create(0, 0);
        y.restrict(0, 0, 1, 3);
        y.tamper(0, 1, 12);
        check.due("rights made up", y.rights(0, 1), 15);
        check.due("rights made up are not genuine", y.genuine(0, 1), false);
        y.restrict(0, 0, 2, 11);
        y.copy(0, 0, 3);
        y.tamper(0, 3, 4);
        check.due("rights dropped without the server", y.genuine(0, 3), false);
        y.tamper(0, 3, 1);
        y.tamper(0, 3, 5);
        check.due("three changes that undo each other", y.genuine(0, 3), true);
        y.tamper(0, 3, 64);
        y.copy(0, 3, 12);
        y.tamper(1, 4, 64);
        check.due("undone in the copy", y.genuine(1, 4), true);
        check.due("not undone at home", y.genuine(0, 3), false);
        y.tamper(0, 3, 64);
        y.revoke(0, 0);
        y.tamper(1, 4, 2);
        y.tamper(1, 4, 2);
        check.due("undoing doesn't help a revoked one", y.genuine(1, 4), false);
    }

    private static void rights() {
        CapabilityServer x = new CapabilityServer(1);
        x.create(0, 0);
        check.due("rights of a new one", x.rights(0, 0), 15);
        for (int rights = 0; rights < 16; rights++) {
            x.restrict(0, 0, 1, rights);
            check.due("rights of a restricted one", x.rights(0, 1), rights);
            x.tamper(0, 1, 9);
            check.due("rights of a changed one", x.rights(0, 1), rights ^ 9);
        }
        check.due("rights of an empty slot", x.rights(1, 0), 0);
        x.destroy(0, 0);
        check.due("rights after destroy", x.rights(0, 0), 15);
        for (int user : BAD_USERS) {
            check.due("rights, bad user", x.rights(user, 0), CapabilityServer.BAD_USER);
            check.due("rights, bad user and slot", x.rights(user, 8), CapabilityServer.BAD_USER);
        }
        for (int slot : BAD_SLOTS) {
            check.due("rights, bad slot", x.rights(0, slot), CapabilityServer.BAD_SLOT);
            check.due("rights, bad slot", x.rights(1, slot), CapabilityServer.BAD_SLOT);
        }
    }

    private static void alive() {
        CapabilityServer x = new CapabilityServer(1);
        for (int count = 1; count <= 8; count++) {
            x.create(0, count - 1);
            check.due("alive after create", x.alive(), count);
        }
        x.create(1, 0);
        check.due("alive after FULL", x.alive(), 8);
        x.revoke(0, 3);
        x.clear(0, 4);
        x.restart();
        check.due("alive after revoke, clear and restart", x.alive(), 8);
        x.destroy(0, 5);
        check.due("alive after destroy", x.alive(), 7);
        x.destroy(0, 5);
        check.due("alive after a refused destroy", x.alive(), 7);
        x.create(0, 5);
        check.due("alive after create", x.alive(), 8);
    }

    private static void looksAreNoRequests() {
        CapabilityServer x = new CapabilityServer(1);
        x.genuine(0, 0);
        x.rights(0, 0);
        x.alive();
        check.due("again after looks alone", x.again(0), CapabilityServer.LOST);
        x.create(0, 0);
        x.add(0, 0, 77);
        x.genuine(0, 0);
        x.rights(0, 0);
        x.alive();
        check.due("again after looks", x.again(0), 77);
    }
}
