/** Promises 13 to 15, sentence by sentence. */
public final class BoundaryLooksTest {
    private static final int REFUSED = CapabilityServer.REFUSED;
    private static final int FULL = CapabilityServer.FULL;

    public static void main(String[] args) {
        Sentences promise = new Sentences();
        Boundary.Call rights = CapabilityServer::rights;
        promise.holds("13: false for a bad user", BoundaryLooksTest::genuineOfABadUser);
        promise.holds("13: false for a bad slot", BoundaryLooksTest::genuineOfABadSlot);
        promise.holds("13: whether the slot holds a genuine capability", BoundaryLooksTest::genuineOrNot);
        promise.holds("13: also one without any right", BoundaryLooksTest::genuineWithoutRights);
        promise.holds("13: changes nothing and is no request", BoundaryLooksTest::genuineChangesNothing);
        promise.holds("14: BAD_USER", check -> Boundary.badUser(check, rights));
        promise.holds("14: BAD_USER comes first", check -> Boundary.badUserComesFirst(check, rights));
        promise.holds("14: BAD_SLOT", check -> Boundary.badSlot(check, rights));
        promise.holds("14: users 0 and 1, slots 0 to 7 are good", check -> Boundary.everyGoodSlot(check, rights));
        promise.holds("14: the rights that stand there, genuine", BoundaryLooksTest::rightsOfGenuine);
        promise.holds("14: or not", BoundaryLooksTest::rightsOfNotGenuine);
        promise.holds("14: 0 for an empty slot", BoundaryLooksTest::rightsOfEmpty);
        promise.holds("14: changes nothing and is no request", BoundaryLooksTest::rightsChangesNothing);
        promise.holds("15: none, some, all eight are alive", BoundaryLooksTest::noneSomeAll);
        promise.holds("15: whichever they are", BoundaryLooksTest::whicheverTheyAre);
        promise.holds("15: alive, whether anybody reaches them or not", BoundaryLooksTest::unreached);
        promise.holds("15: a refused call changes no count", BoundaryLooksTest::refusedCalls);
        promise.holds("15: changes nothing and is no request", BoundaryLooksTest::aliveChangesNothing);
        promise.finish();
    }

    private static void genuineOfABadUser(Check check) {
        CapabilityServer x = everywhere();
        for (int user : Boundary.BAD_USERS) {
            for (int slot = 0; slot < 8; slot++) {
                check.due("user " + user + ", slot " + slot, x.genuine(user, slot), false);
            }
            for (int slot : Boundary.BAD_SLOTS) {
                check.due("user " + user + ", slot " + slot, x.genuine(user, slot), false);
            }
        }
    }

    private static void genuineOfABadSlot(Check check) {
        CapabilityServer x = everywhere();
        for (int slot : Boundary.BAD_SLOTS) {
            check.due("slot " + slot, x.genuine(0, slot), false);
            check.due("slot " + slot, x.genuine(1, slot), false);
        }
    }

    /** All sixteen slots hold a genuine one, so that a bad slot that was taken for a good one shows. */
    private static CapabilityServer everywhere() {
        CapabilityServer x = new CapabilityServer(13);
        x.create(0, 0);
        for (int to = 1; to < 16; to++) {
            x.copy(0, 0, to);
        }
        return x;
    }

    private static void genuineOrNot(Check check) {
        CapabilityServer x = Scene.open();
        for (int user = 0; user < 2; user++) {
            check.due("whole", x.genuine(user, Scene.WHOLE), true);
            for (int slot : Scene.NOT_GENUINE) {
                check.due("slot " + slot, x.genuine(user, slot), false);
            }
        }
        CapabilityServer y = everywhere();
        for (int place = 0; place < 16; place++) {
            check.due("place " + place, y.genuine(place / 8, place % 8), true);
        }
    }

    private static void genuineWithoutRights(Check check) {
        check.due("user 0", Scene.open().genuine(0, Scene.BARE), true);
        check.due("user 1", Scene.open().genuine(1, Scene.BARE), true);
    }

    private static void genuineChangesNothing(Check check) {
        Boundary.Call look = (x, user, slot) -> x.genuine(user, slot) ? 1 : 0;
        for (int slot = -1; slot < 9; slot++) {
            int due = slot == Scene.WHOLE || slot == Scene.BARE ? 1 : 0;
            Boundary.idle(check, "genuine", Scene::open, look, new int[] {0, slot}, due);
            Boundary.idle(check, "genuine", Scene::open, look, new int[] {1, slot}, due);
        }
        Boundary.idle(check, "genuine", () -> new CapabilityServer(0), look, new int[] {0, 0}, 0);
    }

    private static void rightsOfGenuine(Check check) {
        for (int rights = 0; rights < 16; rights++) {
            CapabilityServer x = Boundary.withRights(rights);
            check.due("user 0", x.rights(0, 2), rights);
            check.due("user 1", x.rights(1, 2), rights);
            check.due("the one it came from", x.rights(0, 0), 15);
        }
    }

    private static void rightsOfNotGenuine(Check check) {
        CapabilityServer x = Scene.open();
        for (int user = 0; user < 2; user++) {
            check.due("other rights", x.rights(user, Scene.OTHER_RIGHTS), 10);
            check.due("other object", x.rights(user, Scene.OTHER_OBJECT), 15);
            check.due("revoked", x.rights(user, Scene.REVOKED), 15);
            check.due("dead", x.rights(user, Scene.DEAD), 15);
            check.due("made again", x.rights(user, Scene.MADE_AGAIN), 15);
        }
        for (int rights = 0; rights < 16; rights++) {
            CapabilityServer y = Boundary.withRights(rights);
            y.revoke(0, 0);
            check.due("revoked", y.rights(0, 2), rights);
            y.tamper(0, 2, 6);
            check.due("revoked and changed", y.rights(0, 2), rights ^ 6);
            y.tamper(0, 2, 112);
            check.due("changed to another object", y.rights(0, 2), rights ^ 6);
        }
    }

    private static void rightsOfEmpty(Check check) {
        CapabilityServer x = everywhere();
        for (int place = 0; place < 16; place++) {
            x.clear(place / 8, place % 8);
            check.due("cleared", x.rights(place / 8, place % 8), 0);
        }
        CapabilityServer y = Scene.open();
        check.due("user 0", y.rights(0, Scene.EMPTY), 0);
        check.due("user 1", y.rights(1, Scene.EMPTY), 0);
        y.copy(0, Scene.EMPTY, 8);
        check.due("a copy of an empty one", y.rights(1, 0), 0);
    }

    private static void rightsChangesNothing(Check check) {
        int[] due = {15, 0, 10, 15, 15, 15, 15, 0};
        for (int slot = 0; slot < 8; slot++) {
            Boundary.Call look = CapabilityServer::rights;
            Boundary.idle(check, "rights", Scene::open, look, new int[] {0, slot}, due[slot]);
            Boundary.idle(check, "rights", Scene::open, look, new int[] {1, slot}, due[slot]);
        }
    }

    private static void noneSomeAll(Check check) {
        CapabilityServer x = new CapabilityServer(15);
        check.due("none yet", x.alive(), 0);
        for (int count = 1; count <= 8; count++) {
            x.create(1, count - 1);
            check.due("alive", x.alive(), count);
        }
        x.create(0, 0);
        check.due("after FULL", x.alive(), 8);
        for (int count = 7; count >= 0; count--) {
            x.destroy(1, count);
            check.due("alive", x.alive(), count);
        }
        x.create(0, 3);
        check.due("one made again", x.alive(), 1);
    }

    private static void whicheverTheyAre(Check check) {
        for (int living = 0; living < 256; living++) {
            CapabilityServer x = new CapabilityServer(15);
            int count = 0;
            for (int object = 0; object < 8; object++) {
                x.create(0, object);
            }
            for (int object = 0; object < 8; object++) {
                if ((living >> object & 1) == 0) {
                    x.destroy(0, object);
                } else {
                    count++;
                }
            }
            check.due("alive", x.alive(), count);
        }
    }

    private static void unreached(Check check) {
        CapabilityServer x = new CapabilityServer(15);
        x.create(0, 0);
        x.create(0, 0);
        check.due("replaced by create", x.alive(), 2);
        x.clear(0, 0);
        check.due("cleared", x.alive(), 2);
        x.create(0, 1);
        x.tamper(0, 1, 127);
        check.due("changed", x.alive(), 3);
        x.copy(0, 0, 1);
        check.due("emptied by a copy", x.alive(), 3);
        x.restart();
        check.due("restarted", x.alive(), 3);
    }

    private static void refusedCalls(Check check) {
        CapabilityServer x = Scene.open();
        for (int slot : Scene.NOT_GENUINE) {
            check.due("destroy", x.destroy(0, slot), REFUSED);
            check.due("alive", x.alive(), 4);
        }
        x.create(0, 8);
        x.create(2, 0);
        x.destroy(0, 8);
        x.destroy(2, 0);
        check.due("after bad calls", x.alive(), 4);
        CapabilityServer y = Scene.full();
        check.due("create", y.create(0, 0), FULL);
        check.due("alive", y.alive(), 8);
    }

    private static void aliveChangesNothing(Check check) {
        Boundary.Call look = (x, user, slot) -> x.alive();
        int[] at = {0, 0};
        Boundary.idle(check, "alive", Scene::open, look, at, 4);
        Boundary.idle(check, "alive", Scene::full, look, at, 8);
        Boundary.idle(check, "alive", () -> new CapabilityServer(1), look, at, 0);
    }
}
