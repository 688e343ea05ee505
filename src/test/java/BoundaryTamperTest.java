/** Promise 10, sentence by sentence. */
public final class BoundaryTamperTest {
    private static final int REFUSED = CapabilityServer.REFUSED;

    public static void main(String[] args) {
        Sentences promise = new Sentences();
        Boundary.Call tamper = (x, user, slot) -> x.tamper(user, slot, 3);
        promise.holds("10: BAD_USER", check -> Boundary.badUser(check, tamper));
        promise.holds("10: BAD_USER comes first", check -> Boundary.badUserComesFirst(check, tamper));
        promise.holds("10: BAD_SLOT", check -> Boundary.badSlot(check, tamper));
        promise.holds("10: users 0 and 1, slots 0 to 7 are good", check -> Boundary.everyGoodSlot(check, tamper));
        promise.holds("10: the slot is empty: REFUSED", BoundaryTamperTest::emptySlot);
        promise.holds("10: a slot with no rights left is not empty", BoundaryTamperTest::noRightsIsNotEmpty);
        promise.holds("10: 'bits' & 15 in its rights", BoundaryTamperTest::bitsInRights);
        promise.holds("10: 'bits' >> 4 & 7 in its object", BoundaryTamperTest::bitsInObject);
        promise.holds("10: no other bits count", BoundaryTamperTest::noOtherBits);
        promise.holds("10: turns bits round: twice is as before", BoundaryTamperTest::twice);
        promise.holds("10: also in what is not genuine", BoundaryTamperTest::alsoNotGenuine);
        promise.holds("10: in what the slot holds, and nowhere else", BoundaryTamperTest::nowhereElse);
        promise.holds("10: else answers 0, and is no request", BoundaryTamperTest::noRequest);
        promise.finish();
    }

    private static void emptySlot(Check check) {
        for (int bits : new int[] {0, 1, 15, 16, 112, 127, 128, -128, -1, Integer.MIN_VALUE, Integer.MAX_VALUE}) {
            Boundary.Call tamper = (x, user, slot) -> x.tamper(user, slot, bits);
            for (int user = 0; user < 2; user++) {
                int[] at = {user, Scene.EMPTY};
                Boundary.idle(check, "tamper " + bits, Scene::open, tamper, at, REFUSED);
            }
        }
    }

    // All 128 states of a capability's open bits must stay a capability, for every object.
    private static void noRightsIsNotEmpty(Check check) {
        for (int object = 0; object < 8; object++) {
            CapabilityServer x = new CapabilityServer(10);
            for (int made = 0; made <= object; made++) {
                x.create(1, 0);
            }
            x.restrict(1, 0, 1, 0);
            check.due("without rights", x.tamper(1, 1, 0), 0);
            for (int bits = 1; bits < 128; bits++) {
                check.due("tamper " + bits, x.tamper(1, 1, bits), 0);
                check.due("tamper 0 after " + bits, x.tamper(1, 1, 0), 0);
                x.tamper(1, 1, bits);
            }
            check.due("as before", x.genuine(1, 1), true);
            x.tamper(1, 1, object << 4);
            check.due("all open bits are 0", x.clear(1, 1), 1);
        }
    }

    private static void bitsInRights(Check check) {
        for (int has = 0; has < 16; has++) {
            for (int bits = 0; bits < 16; bits++) {
                CapabilityServer x = Boundary.withRights(has);
                check.due("tamper", x.tamper(0, 2, bits), 0);
                check.due("rights " + has + " after " + bits, x.rights(0, 2), has ^ bits);
                check.due("genuine", x.genuine(0, 2), bits == 0);
            }
        }
    }

    // Only the same change once more undoes a change of the object: so each bit of it counts by itself.
    private static void bitsInObject(Check check) {
        for (int first = 0; first < 8; first++) {
            for (int second = 0; second < 8; second++) {
                CapabilityServer x = new CapabilityServer(10);
                for (int slot = 0; slot < 8; slot++) {
                    x.create(0, slot);
                }
                x.tamper(0, 5, first << 4);
                check.due("rights stay", x.rights(0, 5), 15);
                check.due("genuine", x.genuine(0, 5), first == 0);
                check.due("read", x.read(0, 5), first == 0 ? 0 : REFUSED);
                x.tamper(0, 5, second << 4);
                check.due("rights stay", x.rights(0, 5), 15);
                check.due(first + " and " + second, x.genuine(0, 5), first == second);
            }
        }
    }

    private static void noOtherBits(Check check) {
        for (int bit = 7; bit < 32; bit++) {
            int bits = 1 << bit;
            Boundary.Call tamper = (x, user, slot) -> x.tamper(user, slot, bits);
            for (int slot = 0; slot < Scene.EMPTY; slot++) {
                Boundary.idle(check, "tamper bit " + bit, Scene::open, tamper, new int[] {0, slot}, 0);
                Boundary.idle(check, "tamper bit " + bit, Scene::open, tamper, new int[] {1, slot}, 0);
            }
        }
        int[] above = {-128, 128, 1 << 30, Integer.MIN_VALUE, Integer.MAX_VALUE - 127};
        for (int high : above) {
            for (int low = 0; low < 128; low++) {
                CapabilityServer x = new CapabilityServer(10);
                x.create(0, 0);
                x.tamper(0, 0, high + low);
                check.due("rights after " + (high + low), x.rights(0, 0), 15 ^ low & 15);
                check.due("genuine after " + (high + low), x.genuine(0, 0), low == 0);
                x.tamper(0, 0, low);
                check.due("undone by " + low, x.genuine(0, 0), true);
            }
        }
    }

    private static void twice(Check check) {
        for (int bits = -130; bits < 260; bits++) {
            int change = bits;
            Boundary.Call both = (x, user, slot) -> x.tamper(user, slot, change) + x.tamper(user, slot, change);
            for (int slot = 0; slot < Scene.EMPTY; slot++) {
                Boundary.idle(check, "tamper twice " + bits, Scene::open, both, new int[] {0, slot}, 0);
            }
        }
    }

    private static void alsoNotGenuine(Check check) {
        int[] notGenuine =
            {Scene.OTHER_RIGHTS, Scene.OTHER_OBJECT, Scene.REVOKED, Scene.DEAD, Scene.MADE_AGAIN};
        for (int slot : notGenuine) {
            for (int user = 0; user < 2; user++) {
                CapabilityServer x = Scene.open();
                int rights = x.rights(user, slot);
                check.due("tamper", x.tamper(user, slot, 9), 0);
                check.due("rights", x.rights(user, slot), rights ^ 9);
                check.due("genuine", x.genuine(user, slot), false);
            }
        }
        CapabilityServer y = Scene.open();
        y.tamper(0, Scene.OTHER_RIGHTS, 4);
        check.due("half undone", y.genuine(0, Scene.OTHER_RIGHTS), false);
        y.tamper(0, Scene.OTHER_RIGHTS, 1);
        check.due("undone", y.genuine(0, Scene.OTHER_RIGHTS), true);
    }

    private static void nowhereElse(Check check) {
        for (int place = 0; place < 16; place++) {
            CapabilityServer x = new CapabilityServer(10);
            x.create(0, 0);
            for (int to = 1; to < 16; to++) {
                x.copy(0, 0, to);
            }
            x.tamper(place / 8, place % 8, 127);
            for (int other = 0; other < 16; other++) {
                check.due("place " + other, x.genuine(other / 8, other % 8), other != place);
                check.due("place " + other, x.rights(other / 8, other % 8), other == place ? 0 : 15);
            }
            check.due("alive", x.alive(), 1);
        }
    }

    private static void noRequest(Check check) {
        CapabilityServer x = Scene.open();
        for (int slot = 0; slot < 8; slot++) {
            int due = slot == Scene.EMPTY ? REFUSED : 0;
            check.due("tamper", x.tamper(0, slot, 127), due);
            check.due("tamper", x.tamper(1, slot, 127), due);
            check.due("last answers", Scene.answers(x), "100 200");
        }
    }
}
