/** Promise 11, sentence by sentence. */
public final class BoundaryClearTest {
    private static final int REFUSED = CapabilityServer.REFUSED;

    public static void main(String[] args) {
        Sentences promise = new Sentences();
        Boundary.Call clear = CapabilityServer::clear;
        promise.holds("11: BAD_USER", check -> Boundary.badUser(check, clear));
        promise.holds("11: BAD_USER comes first", check -> Boundary.badUserComesFirst(check, clear));
        promise.holds("11: BAD_SLOT", check -> Boundary.badSlot(check, clear));
        promise.holds("11: users 0 and 1, slots 0 to 7 are good", check -> Boundary.everyGoodSlot(check, clear));
        promise.holds("11: 1 if it held something", BoundaryClearTest::heldSomething);
        promise.holds("11: 0 if not", BoundaryClearTest::heldNothing);
        promise.holds("11: empties the slot", BoundaryClearTest::emptiesTheSlot);
        promise.holds("11: empties no other slot", BoundaryClearTest::noOtherSlot);
        promise.holds("11: the object lives on", BoundaryClearTest::objectLivesOn);
        promise.holds("11: is no request", BoundaryClearTest::noRequest);
        promise.finish();
    }

    private static void heldSomething(Check check) {
        for (int user = 0; user < 2; user++) {
            for (int slot = 0; slot < Scene.EMPTY; slot++) {
                check.due("slot " + slot, Scene.open().clear(user, slot), 1);
            }
        }
        CapabilityServer x = new CapabilityServer(11);
        x.create(1, 7);
        x.restrict(1, 7, 0, 0);
        check.due("no rights, object 0", x.clear(1, 0), 1);
        x.tamper(1, 7, 15);
        check.due("no rights after a change", x.clear(1, 7), 1);
    }

    private static void heldNothing(Check check) {
        for (int place = 0; place < 16; place++) {
            CapabilityServer x = new CapabilityServer(11);
            check.due("a new object", x.clear(place / 8, place % 8), 0);
            x.create(place / 8, place % 8);
            x.clear(place / 8, place % 8);
            check.due("cleared before", x.clear(place / 8, place % 8), 0);
        }
        int[] at = {1, Scene.EMPTY};
        Boundary.idle(check, "clear", Scene::open, CapabilityServer::clear, at, 0);
    }

    private static void emptiesTheSlot(Check check) {
        for (int user = 0; user < 2; user++) {
            for (int slot = 0; slot < 8; slot++) {
                CapabilityServer x = Scene.open();
                x.clear(user, slot);
                check.due("rights", x.rights(user, slot), 0);
                check.due("genuine", x.genuine(user, slot), false);
                check.due("read", x.read(user, slot), REFUSED);
                check.due("add", x.add(user, slot, 1), REFUSED);
                check.due("destroy", x.destroy(user, slot), REFUSED);
                check.due("revoke", x.revoke(user, slot), REFUSED);
                check.due("restrict", x.restrict(user, slot, 0, 1), REFUSED);
                check.due("tamper", x.tamper(user, slot, 1), REFUSED);
                check.due("it can be filled again", x.create(user, slot), 4);
                check.due("genuine", x.genuine(user, slot), true);
            }
        }
    }

    private static void noOtherSlot(Check check) {
        for (int place = 0; place < 16; place++) {
            CapabilityServer x = new CapabilityServer(11);
            x.create(0, 0);
            for (int to = 1; to < 16; to++) {
                x.copy(0, 0, to);
            }
            x.clear(place / 8, place % 8);
            for (int other = 0; other < 16; other++) {
                check.due("place " + other, x.genuine(other / 8, other % 8), other != place);
            }
        }
    }

    private static void objectLivesOn(Check check) {
        CapabilityServer x = new CapabilityServer(11);
        for (int object = 0; object < 8; object++) {
            check.due("create", x.create(0, 0), object);
            x.clear(0, 0);
            check.due("alive", x.alive(), object + 1);
        }
        check.due("none is free", x.create(0, 0), CapabilityServer.FULL);
        CapabilityServer y = Scene.open();
        y.copy(0, 0, 15);
        y.clear(0, 0);
        check.due("a copy reaches it", y.read(1, 7), 100);
    }

    private static void noRequest(Check check) {
        CapabilityServer x = Scene.open();
        for (int slot = 0; slot < 8; slot++) {
            x.clear(0, slot);
            x.clear(1, slot);
            check.due("last answers", Scene.answers(x), "100 200");
        }
    }
}
