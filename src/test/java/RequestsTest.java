/** Promises 2 to 8: the requests to the server. */
public final class RequestsTest {
    private static final int BAD_USER = CapabilityServer.BAD_USER;
    private static final int BAD_SLOT = CapabilityServer.BAD_SLOT;
    private static final int REFUSED = CapabilityServer.REFUSED;
    private static final int FULL = CapabilityServer.FULL;
    private static final int BAD_RIGHTS = CapabilityServer.BAD_RIGHTS;
    private static final int LOST = CapabilityServer.LOST;

    private static final Check check = new Check();
    private static final int[] BAD_USERS = {-1, 2, 3, 8, Integer.MIN_VALUE, Integer.MAX_VALUE};
    private static final int[] BAD_SLOTS = {-1, 8, 9, 15, 16, Integer.MIN_VALUE, Integer.MAX_VALUE};

    public static void main(String[] args) {
        create();
        createReplacesWhatTheSlotHeld();
        createWhenFull();
        read();
        add();
        destroy();
        revoke();
        revokeKeepsRights();
        restrict();
        restrictWrongInputs();
        eachRightAlone();
        notGenuineIsRefused();
        badUsersAndSlots();
        again();
        againChangesNothing();
        againAfterEachRequest();
        badCallsAreNoRequests();
        check.finish();
    }

    private static void create() {
        CapabilityServer x = new CapabilityServer(5);
        for (int object = 0; object < 8; object++) {
            check.due("create", x.create(object & 1, object), object);
            check.due("read", x.read(object & 1, object), 0);
            check.due("rights", x.rights(object & 1, object), 15);
            x.add(object & 1, object, 100 + object);
        }
        for (int object = 0; object < 8; object++) {
            check.due("each slot has its own object", x.read(object & 1, object), 100 + object);
        }
        x.destroy(0, 6);
        x.destroy(1, 3);
        check.due("the smallest free object", x.create(1, 0), 3);
        check.due("value after it is made again", x.read(1, 0), 0);
        check.due("then the next", x.create(1, 2), 6);
        check.due("value after it is made again", x.read(1, 2), 0);
        check.due("then none", x.create(1, 4), FULL);
    }

    private static void createReplacesWhatTheSlotHeld() {
        CapabilityServer x = new CapabilityServer(5);
        x.create(0, 0);
        x.add(0, 0, 10);
        x.copy(0, 0, 8);
        check.due("create into a full slot", x.create(0, 0), 1);
        check.due("reads the new object", x.read(0, 0), 0);
        check.due("the old object lives on", x.read(1, 0), 10);
        x.tamper(0, 0, 127);
        check.due("create over a changed one", x.create(0, 0), 2);
        check.due("is genuine", x.genuine(0, 0), true);
        check.due("alive", x.alive(), 3);
    }

    private static void createWhenFull() {
        CapabilityServer x = new CapabilityServer(5);
        for (int slot = 0; slot < 8; slot++) {
            x.create(0, slot);
        }
        x.add(0, 2, 9);
        check.due("create when full", x.create(0, 2), FULL);
        check.due("FULL is kept as the answer", x.again(0), FULL);
        check.due("the slot is as it was", x.read(0, 2), 9);
        check.due("create when full, empty slot", x.create(1, 2), FULL);
        check.due("the slot stays empty", x.clear(1, 2), 0);
        check.due("bad user when full", x.create(2, 0), BAD_USER);
        check.due("bad slot when full", x.create(0, 8), BAD_SLOT);
    }

    private static void read() {
        CapabilityServer x = new CapabilityServer(5);
        x.create(0, 0);
        x.create(0, 7);
        for (int wanted = -8; wanted <= 8; wanted++) {
            x.add(0, 7, wanted - x.read(0, 7));
            check.due("read", x.read(0, 7), wanted);
            check.due("again after read", x.again(0), wanted);
        }
        check.due("read of the other object", x.read(0, 0), 0);
        x.copy(0, 7, 8 + 3);
        check.due("read through a copy", x.read(1, 3), 8);
        check.due("read of an empty slot", x.read(1, 4), REFUSED);
    }

    private static void add() {
        CapabilityServer x = new CapabilityServer(5);
        x.create(1, 4);
        check.due("add", x.add(1, 4, 5), 5);
        check.due("add 0", x.add(1, 4, 0), 5);
        check.due("add a negative number", x.add(1, 4, -8), -3);
        x.copy(1, 4, 0);
        check.due("add through a copy", x.add(0, 0, 3), 0);
        check.due("add the greatest", x.add(0, 0, Integer.MAX_VALUE), Integer.MAX_VALUE);
        check.due("add wraps", x.add(1, 4, 1), Integer.MIN_VALUE);
        check.due("add wraps back", x.add(1, 4, -1), Integer.MAX_VALUE);
        check.due("add the smallest", x.add(1, 4, Integer.MIN_VALUE), -1);
        check.due("read after all", x.read(0, 0), -1);
        check.due("add to an empty slot", x.add(0, 1, 1), REFUSED);
        x.restrict(1, 4, 5, 13);
        check.due("add without ADD", x.add(1, 5, 50), REFUSED);
        check.due("a refused add changes nothing", x.read(1, 5), -1);
    }

    private static void destroy() {
        CapabilityServer x = new CapabilityServer(5);
        x.create(0, 0);
        x.create(0, 1);
        x.add(0, 0, 40);
        x.add(0, 1, 41);
        x.copy(0, 0, 8);
        x.restrict(0, 0, 2, 4);
        check.due("destroy", x.destroy(0, 2), 0);
        check.due("alive", x.alive(), 1);
        check.due("read after destroy", x.read(0, 0), REFUSED);
        check.due("read of a copy after destroy", x.read(1, 0), REFUSED);
        check.due("destroy twice", x.destroy(0, 2), REFUSED);
        check.due("the other object", x.read(0, 1), 41);
        check.due("the slot still holds something", x.rights(0, 2), 4);
        check.due("made again", x.create(1, 7), 0);
        check.due("old one, read", x.read(0, 0), REFUSED);
        check.due("old one, add", x.add(1, 0, 1), REFUSED);
        check.due("old one, destroy", x.destroy(0, 2), REFUSED);
        check.due("old one, revoke", x.revoke(0, 0), REFUSED);
        check.due("old one, restrict", x.restrict(0, 0, 3, 15), REFUSED);
        check.due("the new life", x.read(1, 7), 0);
        check.due("destroy without DESTROY", x.restrict(1, 7, 6, 11), 11);
        check.due("destroy without DESTROY", x.destroy(1, 6), REFUSED);
        check.due("alive", x.alive(), 2);
    }

    private static void revoke() {
        CapabilityServer x = new CapabilityServer(5);
        x.create(0, 0);
        x.create(0, 1);
        x.add(0, 0, 20);
        x.copy(0, 0, 8);
        x.copy(0, 0, 2);
        x.copy(0, 1, 9);
        check.due("revoke", x.revoke(1, 0), 0);
        check.due("the slot's new one", x.genuine(1, 0), true);
        check.due("the value stays", x.read(1, 0), 20);
        check.due("revoked", x.genuine(0, 0), false);
        check.due("revoked", x.genuine(0, 2), false);
        check.due("read with a revoked one", x.read(0, 0), REFUSED);
        check.due("revoke with a revoked one", x.revoke(0, 0), REFUSED);
        check.due("the other object's", x.genuine(0, 1), true);
        check.due("the other object's copy", x.genuine(1, 1), true);
        check.due("alive", x.alive(), 2);
        x.copy(1, 0, 3);
        check.due("a copy of the new one", x.read(0, 3), 20);
        check.due("revoke again", x.revoke(0, 3), 0);
        check.due("the one before", x.genuine(1, 0), false);
        check.due("the first stays revoked", x.genuine(0, 0), false);
        check.due("the newest", x.genuine(0, 3), true);
    }

    private static void revokeKeepsRights() {
        for (int rights = 0; rights < 16; rights++) {
            CapabilityServer x = new CapabilityServer(rights);
            x.create(0, 0);
            x.restrict(0, 0, 1, rights);
            boolean may = (rights & CapabilityServer.REVOKE) != 0;
            check.due("revoke with " + rights, x.revoke(0, 1), may ? 0 : REFUSED);
            check.due("rights after revoke", x.rights(0, 1), rights);
            check.due("genuine after revoke", x.genuine(0, 1), true);
            check.due("the full one", x.genuine(0, 0), !may);
        }
    }

    private static void restrict() {
        CapabilityServer x = new CapabilityServer(5);
        x.create(1, 0);
        x.add(1, 0, 6);
        for (int has = 0; has < 16; has++) {
            x.restrict(1, 0, 1, has);
            for (int mask = 0; mask < 16; mask += 3) {
                check.due("restrict", x.restrict(1, 1, 7, mask), has & mask);
                check.due("rights of the new one", x.rights(1, 7), has & mask);
            }
            check.due("genuine", x.genuine(1, 7), true);
            check.due("the one in from", x.rights(1, 1), has);
        }
        check.due("for the same object", x.read(1, 7), 6);
        check.due("the other user's slot", x.clear(0, 7), 0);
        check.due("restrict in place", x.restrict(1, 7, 7, 5), 5);
        check.due("is genuine", x.genuine(1, 7), true);
        check.due("rights don't come back", x.restrict(1, 7, 7, 15), 5);
        check.due("down to none", x.restrict(1, 7, 7, 2), 0);
        check.due("still genuine", x.genuine(1, 7), true);
        check.due("none of none", x.restrict(1, 7, 6, 15), 0);
        check.due("replaces what 'to' held", x.restrict(1, 0, 7, 15), 15);
        check.due("revoke reaches restricted ones", x.revoke(1, 7), 0);
        check.due("revoke reaches restricted ones", x.genuine(1, 6), false);
    }

    private static void restrictWrongInputs() {
        CapabilityServer x = new CapabilityServer(5);
        x.create(0, 0);
        x.add(0, 0, 33);
        int[] badRights = {-1, 16, 17, 31, Integer.MIN_VALUE, Integer.MAX_VALUE};
        for (int rights : badRights) {
            check.due("bad rights", x.restrict(0, 0, 1, rights), BAD_RIGHTS);
            check.due("bad rights, not genuine", x.restrict(0, 5, 1, rights), BAD_RIGHTS);
            check.due("bad slot first", x.restrict(0, 8, 1, rights), BAD_SLOT);
            check.due("bad slot first", x.restrict(0, 0, -1, rights), BAD_SLOT);
            check.due("bad user first", x.restrict(2, 8, 8, rights), BAD_USER);
        }
        check.due("none of these was a request", x.again(0), 33);
        check.due("nor of the other user", x.again(1), LOST);
        for (int slot : BAD_SLOTS) {
            check.due("bad to", x.restrict(0, 0, slot, 15), BAD_SLOT);
            check.due("bad to, not genuine", x.restrict(0, 5, slot, 15), BAD_SLOT);
        }
        check.due("none of these was a request", x.again(0), 33);
        x.restrict(0, 0, 1, 3);
        check.due("not genuine", x.restrict(0, 5, 1, 15), REFUSED);
        check.due("'to' is as it was", x.rights(0, 1), 3);
        check.due("refused is a request", x.again(0), REFUSED);
        x.tamper(0, 0, 1);
        check.due("a changed one", x.restrict(0, 0, 0, 15), REFUSED);
        check.due("is left as it was", x.rights(0, 0), 14);
        x.tamper(0, 0, 1);
        check.due("and can be undone", x.genuine(0, 0), true);
    }

    private static void eachRightAlone() {
        for (int rights = 0; rights < 16; rights++) {
            CapabilityServer x = new CapabilityServer(rights);
            x.create(0, 0);
            x.restrict(0, 0, 1, rights);
            check.due("read with " + rights, x.read(0, 1), (rights & 1) != 0 ? 0 : REFUSED);
            check.due("add with " + rights, x.add(0, 1, 5), (rights & 2) != 0 ? 5 : REFUSED);
            check.due("value", x.read(0, 0), (rights & 2) != 0 ? 5 : 0);
            check.due("revoke with " + rights, x.revoke(0, 1), (rights & 8) != 0 ? 0 : REFUSED);
            check.due("destroy with " + rights, x.destroy(0, 1), (rights & 4) != 0 ? 0 : REFUSED);
            check.due("alive", x.alive(), (rights & 4) != 0 ? 0 : 1);
        }
    }

    private static void notGenuineIsRefused() {
        for (int bits = 1; bits < 128; bits++) {
            CapabilityServer x = new CapabilityServer(bits);
            for (int slot = 0; slot < 8; slot++) {
                x.create(0, slot);
            }
            x.tamper(0, 3, bits);
            String what = " after tamper " + bits;
            check.due("read" + what, x.read(0, 3), REFUSED);
            check.due("add" + what, x.add(0, 3, 1), REFUSED);
            check.due("destroy" + what, x.destroy(0, 3), REFUSED);
            check.due("revoke" + what, x.revoke(0, 3), REFUSED);
            check.due("restrict" + what, x.restrict(0, 3, 3, 15), REFUSED);
            check.due("alive" + what, x.alive(), 8);
            x.tamper(0, 3, bits);
            for (int slot = 0; slot < 8; slot++) {
                check.due("untouched" + what, x.read(0, slot), 0);
            }
        }
    }

    private static void badUsersAndSlots() {
        CapabilityServer x = new CapabilityServer(5);
        x.create(0, 0);
        x.create(1, 0);
        for (int user : BAD_USERS) {
            for (int slot : new int[] {0, 7, 8, -1}) {
                check.due("create", x.create(user, slot), BAD_USER);
                check.due("read", x.read(user, slot), BAD_USER);
                check.due("add", x.add(user, slot, 1), BAD_USER);
                check.due("destroy", x.destroy(user, slot), BAD_USER);
                check.due("revoke", x.revoke(user, slot), BAD_USER);
                check.due("restrict", x.restrict(user, slot, slot, 15), BAD_USER);
            }
            check.due("again", x.again(user), BAD_USER);
        }
        for (int user = 0; user < 2; user++) {
            for (int slot : BAD_SLOTS) {
                check.due("create", x.create(user, slot), BAD_SLOT);
                check.due("read", x.read(user, slot), BAD_SLOT);
                check.due("add", x.add(user, slot, 1), BAD_SLOT);
                check.due("destroy", x.destroy(user, slot), BAD_SLOT);
                check.due("revoke", x.revoke(user, slot), BAD_SLOT);
                check.due("restrict", x.restrict(user, slot, 0, 15), BAD_SLOT);
                check.due("restrict", x.restrict(user, 0, slot, 15), BAD_SLOT);
            }
        }
        check.due("nothing was made or destroyed", x.alive(), 2);
        check.due("nothing was added", x.read(0, 0), 0);
        check.due("nothing was added", x.read(1, 0), 0);
    }

    private static void again() {
        CapabilityServer x = new CapabilityServer(5);
        check.due("no request yet", x.again(0), LOST);
        check.due("create", x.create(0, 3), 0);
        check.due("again", x.again(0), 0);
        check.due("the other user's", x.again(1), LOST);
        check.due("a refused one", x.read(1, 3), REFUSED);
        check.due("again", x.again(1), REFUSED);
        check.due("the first user's", x.again(0), 0);
        x.add(0, 3, 12);
        x.copy(0, 3, 8);
        x.add(1, 0, 30);
        check.due("answers what it answered then", x.again(0), 12);
        check.due("of each user", x.again(1), 42);
        check.due("again and again", x.again(0), 12);
        x.restart();
        check.due("lost", x.again(0), LOST);
        check.due("lost", x.again(1), LOST);
        check.due("still lost", x.again(0), LOST);
        check.due("a value that equals LOST", x.add(0, 3, -48), LOST);
        check.due("again", x.again(0), LOST);
        check.due("a new request", x.read(1, 0), LOST);
        check.due("a new request", x.add(0, 3, 7), 1);
        check.due("again", x.again(0), 1);
    }

    private static void againChangesNothing() {
        CapabilityServer x = new CapabilityServer(5);
        x.create(0, 0);
        x.again(0);
        check.due("no second object", x.alive(), 1);
        x.add(0, 0, 5);
        x.again(0);
        x.again(0);
        check.due("no second add", x.read(0, 0), 5);
        x.revoke(0, 0);
        x.copy(0, 0, 1);
        x.again(0);
        check.due("no second revoke", x.genuine(0, 1), true);
        x.restrict(0, 0, 2, 3);
        x.clear(0, 2);
        check.due("again of restrict", x.again(0), 3);
        check.due("no second restrict", x.clear(0, 2), 0);
        x.destroy(0, 0);
        x.create(1, 0);
        check.due("again of destroy", x.again(0), 0);
        check.due("no second destroy", x.genuine(1, 0), true);
        x.read(0, 5);
        x.copy(1, 0, 5);
        check.due("a refused one stays refused", x.again(0), REFUSED);
        check.due("sent anew it isn't", x.read(0, 5), 0);
    }

    private static void againAfterEachRequest() {
        CapabilityServer x = new CapabilityServer(5);
        for (int slot = 0; slot < 3; slot++) {
            check.due("create", x.create(1, slot), slot);
            check.due("again of create", x.again(1), slot);
        }
        x.add(1, 2, 400);
        check.due("again of add", x.again(1), 400);
        x.read(1, 1);
        check.due("again of read", x.again(1), 0);
        x.add(1, 2, 1);
        x.revoke(1, 2);
        check.due("again of revoke", x.again(1), 0);
        x.restrict(1, 2, 3, 9);
        check.due("again of restrict", x.again(1), 9);
        x.destroy(1, 2);
        check.due("again of destroy", x.again(1), 0);
        x.read(1, 1);
        x.add(1, 2, 1);
        check.due("again of a refused add", x.again(1), REFUSED);
        x.read(1, 1);
        x.destroy(1, 2);
        check.due("again of a refused destroy", x.again(1), REFUSED);
        x.read(1, 1);
        x.revoke(1, 2);
        check.due("again of a refused revoke", x.again(1), REFUSED);
        x.read(1, 1);
        x.restrict(1, 2, 2, 1);
        check.due("again of a refused restrict", x.again(1), REFUSED);
        x.read(1, 1);
        x.read(1, 2);
        check.due("again of a refused read", x.again(1), REFUSED);
    }

    private static void badCallsAreNoRequests() {
        CapabilityServer x = new CapabilityServer(5);
        x.create(0, 0);
        x.add(0, 0, 70);
        x.create(0, 8);
        check.due("after a bad create", x.again(0), 70);
        x.read(0, 8);
        check.due("after a bad read", x.again(0), 70);
        x.add(0, -1, 2);
        check.due("after a bad add", x.again(0), 70);
        x.destroy(0, 9);
        check.due("after a bad destroy", x.again(0), 70);
        x.revoke(0, 10);
        check.due("after a bad revoke", x.again(0), 70);
        x.restrict(0, 8, 0, 1);
        x.restrict(0, 0, 8, 1);
        x.restrict(0, 0, 0, 16);
        check.due("after bad restricts", x.again(0), 70);
        x.again(2);
        x.read(2, 0);
        check.due("after bad users", x.again(0), 70);
        check.due("the other user has made none", x.again(1), LOST);
    }
}
