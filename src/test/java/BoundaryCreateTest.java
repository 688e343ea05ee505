/** Promise 2, sentence by sentence. */
public final class BoundaryCreateTest {
    private static final int BAD_USER = CapabilityServer.BAD_USER;
    private static final int BAD_SLOT = CapabilityServer.BAD_SLOT;
    private static final int REFUSED = CapabilityServer.REFUSED;
    private static final int FULL = CapabilityServer.FULL;

    public static void main(String[] args) {
        Sentences promise = new Sentences();
        Boundary.Call create = CapabilityServer::create;
        promise.holds("2: BAD_USER", check -> Boundary.badUser(check, create));
        promise.holds("2: BAD_USER comes first", check -> Boundary.badUserComesFirst(check, create));
        promise.holds("2: BAD_SLOT", check -> Boundary.badSlot(check, create));
        promise.holds("2: users 0 and 1, slots 0 to 7 are good", check -> Boundary.everyGoodSlot(check, create));
        promise.holds("2: BAD_USER and BAD_SLOT come before FULL", BoundaryCreateTest::badBeforeFull);
        promise.holds("2: the smallest object that isn't alive", BoundaryCreateTest::smallestOfOneOrTwo);
        promise.holds("2: becomes alive", BoundaryCreateTest::becomesAlive);
        promise.holds("2: with the value 0, also if it is made again", BoundaryCreateTest::valueIsZero);
        promise.holds("2: the slot holds a capability for it with all rights", BoundaryCreateTest::allRights);
        promise.holds("2: instead of what it held", BoundaryCreateTest::insteadOfWhatItHeld);
        promise.holds("2: the eighth is not yet FULL, the ninth is", BoundaryCreateTest::eightAndNine);
        promise.holds("2: All eight are alive: answers FULL and changes nothing", BoundaryCreateTest::full);
        promise.holds("2: FULL only while all eight are alive", BoundaryCreateTest::fullNoMore);
        promise.holds("2: else answers the object", BoundaryCreateTest::answersTheObject);
        promise.finish();
    }

    private static void badBeforeFull(Check check) {
        Boundary.Call create = CapabilityServer::create;
        for (int user : Boundary.BAD_USERS) {
            Boundary.idle(check, "create", Scene::full, create, new int[] {user, 0}, BAD_USER);
        }
        for (int slot : Boundary.BAD_SLOTS) {
            Boundary.idle(check, "create", Scene::full, create, new int[] {0, slot}, BAD_SLOT);
            Boundary.idle(check, "create", Scene::full, create, new int[] {1, slot}, BAD_SLOT);
        }
    }

    private static CapabilityServer eight(int user) {
        CapabilityServer x = new CapabilityServer(4);
        for (int slot = 0; slot < 8; slot++) {
            x.create(user, slot);
        }
        return x;
    }

    private static void smallestOfOneOrTwo(Check check) {
        for (int one = 0; one < 8; one++) {
            for (int two = 0; two < 8; two++) {
                CapabilityServer x = eight(0);
                x.destroy(0, one);
                x.destroy(0, two);
                int smaller = one < two ? one : two;
                int larger = one < two ? two : one;
                check.due(one + " and " + two + " are free", x.create(1, 0), smaller);
                check.due(one + " and " + two + " were free", x.create(1, 1), one == two ? FULL : larger);
            }
        }
    }

    private static void becomesAlive(Check check) {
        CapabilityServer x = eight(0);
        for (int object = 0; object < 8; object++) {
            x.destroy(0, object);
            check.due("alive", x.alive(), 7);
            x.create(0, object);
            check.due("alive", x.alive(), 8);
            check.due("genuine", x.genuine(0, object), true);
        }
    }

    private static void valueIsZero(Check check) {
        for (int object = 0; object < 8; object++) {
            CapabilityServer x = eight(0);
            check.due("value of a new one", x.read(0, object), 0);
            x.add(0, object, Integer.MIN_VALUE + object);
            x.destroy(0, object);
            x.create(1, 3);
            check.due("value of one made again", x.read(1, 3), 0);
            check.due("adding to it", x.add(1, 3, 4), 4);
        }
    }

    private static void allRights(Check check) {
        for (int place = 0; place < 16; place++) {
            CapabilityServer x = new CapabilityServer(4);
            int user = place >> 3;
            int slot = place & 7;
            x.create(user, slot);
            check.due("rights", x.rights(user, slot), 15);
            check.due("genuine", x.genuine(user, slot), true);
            check.due("READ", x.read(user, slot), 0);
            check.due("ADD", x.add(user, slot, 9), 9);
            check.due("REVOKE", x.revoke(user, slot), 0);
            check.due("DESTROY", x.destroy(user, slot), 0);
            for (int other = 0; other < 16; other++) {
                int held = x.clear(other >> 3, other & 7);
                check.due("place " + other + " holds something", held, other == place ? 1 : 0);
            }
        }
    }

    private static void insteadOfWhatItHeld(Check check) {
        for (int user = 0; user < 2; user++) {
            for (int slot = 0; slot < 8; slot++) {
                CapabilityServer x = Scene.open();
                check.due("create in slot " + slot, x.create(user, slot), 4);
                check.due("rights", x.rights(user, slot), 15);
                check.due("genuine", x.genuine(user, slot), true);
                check.due("value", x.read(user, slot), 0);
                check.due("destroy", x.destroy(user, slot), 0);
                check.due("it was the new one", x.create(user, slot), 4);
                check.due("what was held lives on", x.alive(), 5);
            }
        }
    }

    private static void eightAndNine(Check check) {
        for (int user = 0; user < 2; user++) {
            CapabilityServer x = new CapabilityServer(4);
            for (int object = 0; object < 8; object++) {
                check.due("create", x.create(user, 5), object);
            }
            check.due("the ninth", x.create(user, 5), FULL);
            check.due("the ninth by the other user", x.create(1 - user, 5), FULL);
            check.due("the eighth is held still", x.destroy(user, 5), 0);
            check.due("and was object 7", x.create(user, 5), 7);
        }
    }

    private static void full(Check check) {
        for (int user = 0; user < 2; user++) {
            for (int slot = 0; slot < 8; slot++) {
                int[] at = {user, slot};
                Boundary.idleRequest(check, "create", Scene::full, CapabilityServer::create, at, FULL);
            }
        }
    }

    private static void fullNoMore(Check check) {
        for (int object = 0; object < 8; object++) {
            CapabilityServer x = eight(1);
            check.due("all are alive", x.create(0, 0), FULL);
            x.destroy(1, object);
            check.due("one is free", x.create(0, 0), object);
            check.due("all are alive again", x.create(0, 1), FULL);
            check.due("a cleared slot frees nothing", x.clear(0, 0), 1);
            check.due("all are alive still", x.create(0, 0), FULL);
            x.restart();
            check.due("a restart frees nothing", x.create(0, 0), FULL);
            check.due("what FULL left empty", x.read(0, 0), REFUSED);
        }
    }

    private static void answersTheObject(Check check) {
        CapabilityServer x = new CapabilityServer(4);
        for (int object = 0; object < 8; object++) {
            int user = object % 2;
            check.due("create", x.create(user, 7 - object), object);
            check.due("again", x.again(user), object);
        }
    }
}
