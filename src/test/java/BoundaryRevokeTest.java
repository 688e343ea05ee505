/** Promise 6, sentence by sentence. */
public final class BoundaryRevokeTest {
    private static final int REFUSED = CapabilityServer.REFUSED;

    public static void main(String[] args) {
        Sentences promise = new Sentences();
        Boundary.Call revoke = CapabilityServer::revoke;
        promise.holds("6: BAD_USER", check -> Boundary.badUser(check, revoke));
        promise.holds("6: BAD_USER comes first", check -> Boundary.badUserComesFirst(check, revoke));
        promise.holds("6: BAD_SLOT", check -> Boundary.badSlot(check, revoke));
        promise.holds("6: users 0 and 1, slots 0 to 7 are good", check -> Boundary.everyGoodSlot(check, revoke));
        promise.holds("6: not genuine: REFUSED", check -> Boundary.refusesWhatIsNotGenuine(check, revoke));
        promise.holds("6: without REVOKE: REFUSED", check -> Boundary.refusesWithout(check, 8, revoke));
        promise.holds("6: REVOKE is enough", check -> Boundary.enoughIs(check, 8, revoke, new int[] {0, 0}));
        promise.holds("6: all capabilities for the slot's object are revoked", BoundaryRevokeTest::allForIt);
        promise.holds("6: also if it is revoked again and again", BoundaryRevokeTest::againAndAgain);
        promise.holds("6: also one that was changed meanwhile",
            check -> ManyForOne.changedMeanwhile(check, revoke));
        promise.holds("6: the slot holds a new genuine one", BoundaryRevokeTest::newOneIsGenuine);
        promise.holds("6: with the rights that it had", BoundaryRevokeTest::rightsThatItHad);
        promise.holds("6: the object lives on with its value", BoundaryRevokeTest::objectLivesOn);
        promise.holds("6: other objects' capabilities stay", BoundaryRevokeTest::othersStay);
        promise.holds("6: a slot holds on to what is revoked",
            check -> ManyForOne.slotsKeepThem(check, 8, revoke));
        promise.finish();
    }

    private static void allForIt(Check check) {
        for (int by : ManyForOne.ABLE) {
            CapabilityServer x = ManyForOne.open(8);
            check.due("revoke", x.revoke(by >> 3, by & 7), 0);
            for (int place : ManyForOne.HOLDERS) {
                check.due("place " + place + " after " + by, x.genuine(place >> 3, place & 7), place == by);
            }
        }
    }

    // Each round leaves one copy behind; none of them may come back in a later round.
    private static void againAndAgain(Check check) {
        CapabilityServer x = new CapabilityServer(6);
        x.create(1, 0);
        for (int round = 0; round < 45; round++) {
            for (int slot = 1; slot < 8; slot++) {
                check.due("round " + round + ", an older one", x.genuine(1, slot), false);
            }
            check.due("round " + round, x.genuine(1, 0), true);
            x.copy(1, 0, 9 + round % 7);
            check.due("revoke", x.revoke(1, 0), 0);
        }
        for (int times = 1; times <= 508; times++) {
            CapabilityServer y = new CapabilityServer(times);
            y.create(0, 0);
            y.copy(0, 0, 8);
            for (int i = 0; i < times; i++) {
                y.revoke(0, 0);
            }
            check.due("the first one, revoked " + times + " times", y.genuine(1, 0), false);
            check.due("the new one", y.genuine(0, 0), true);
        }
    }

    private static void newOneIsGenuine(Check check) {
        for (int by : ManyForOne.ABLE) {
            CapabilityServer x = ManyForOne.open(8);
            int user = by >> 3;
            int slot = by & 7;
            x.copy(user, slot, 14);
            x.revoke(user, slot);
            check.due("genuine", x.genuine(user, slot), true);
            x.copy(user, slot, 15);
            check.due("a copy of the new one", x.genuine(1, 7), true);
            check.due("a copy of the old one", x.genuine(1, 6), false);
            check.due("the new one can revoke too", x.revoke(user, slot), 0);
            check.due("the copy is now revoked", x.genuine(1, 7), false);
            check.due("the slot's is not", x.genuine(user, slot), true);
        }
    }

    private static void rightsThatItHad(Check check) {
        for (int rights = 8; rights < 16; rights++) {
            for (int user = 0; user < 2; user++) {
                CapabilityServer x = Boundary.withRights(rights);
                check.due("revoke with rights " + rights, x.revoke(user, 2), 0);
                check.due("rights", x.rights(user, 2), rights);
                check.due("genuine", x.genuine(user, 2), true);
                check.due("READ", x.read(user, 2), (rights & 1) == 0 ? REFUSED : 30 + user);
                check.due("ADD", x.add(user, 2, 1), (rights & 2) == 0 ? REFUSED : 31 + user);
                check.due("REVOKE", x.revoke(user, 2), 0);
                check.due("DESTROY", x.destroy(user, 2), (rights & 4) == 0 ? REFUSED : 0);
            }
        }
    }

    private static void objectLivesOn(Check check) {
        CapabilityServer x = ManyForOne.open(8);
        x.revoke(1, 0);
        check.due("alive", x.alive(), 2);
        check.due("value", x.read(1, 0), 19);
        check.due("it is not free", x.create(1, 1), 2);
    }

    private static void othersStay(Check check) {
        for (int object = 0; object < 8; object++) {
            CapabilityServer x = new CapabilityServer(6);
            for (int slot = 0; slot < 8; slot++) {
                x.create(0, slot);
                x.copy(0, slot, 8 + slot);
            }
            x.revoke(0, object);
            for (int slot = 0; slot < 8; slot++) {
                check.due("slot " + slot, x.genuine(0, slot), true);
                check.due("the copy of " + slot, x.genuine(1, slot), slot != object);
            }
        }
    }
}
