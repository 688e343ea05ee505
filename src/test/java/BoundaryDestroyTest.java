/** Promise 5, sentence by sentence. */
public final class BoundaryDestroyTest {
    private static final int REFUSED = CapabilityServer.REFUSED;

    public static void main(String[] args) {
        Sentences promise = new Sentences();
        Boundary.Call destroy = CapabilityServer::destroy;
        promise.holds("5: BAD_USER", check -> Boundary.badUser(check, destroy));
        promise.holds("5: BAD_USER comes first", check -> Boundary.badUserComesFirst(check, destroy));
        promise.holds("5: BAD_SLOT", check -> Boundary.badSlot(check, destroy));
        promise.holds("5: users 0 and 1, slots 0 to 7 are good", check -> Boundary.everyGoodSlot(check, destroy));
        promise.holds("5: not genuine: REFUSED", check -> Boundary.refusesWhatIsNotGenuine(check, destroy));
        promise.holds("5: without DESTROY: REFUSED", check -> Boundary.refusesWithout(check, 4, destroy));
        promise.holds("5: DESTROY is enough", check -> Boundary.enoughIs(check, 4, destroy, new int[] {0, 0}));
        promise.holds("5: the slot's object is no longer alive", BoundaryDestroyTest::thatObjectAlone);
        promise.holds("5: all capabilities for it are genuine no more", BoundaryDestroyTest::allForIt);
        promise.holds("5: also if the object is made again", BoundaryDestroyTest::alsoIfMadeAgain);
        promise.holds("5: also if it is made again and again", BoundaryDestroyTest::madeAgainAndAgain);
        promise.holds("5: also one that was changed meanwhile", BoundaryDestroyTest::changedMeanwhile);
        promise.holds("5: a slot holds on to what is genuine no more",
            check -> ManyForOne.slotsKeepThem(check, 4, destroy));
        promise.finish();
    }

    private static void thatObjectAlone(Check check) {
        for (int object = 0; object < 8; object++) {
            CapabilityServer x = new CapabilityServer(6);
            for (int slot = 0; slot < 8; slot++) {
                x.create(1, slot);
                x.add(1, slot, 50 + slot);
            }
            check.due("destroy", x.destroy(1, object), 0);
            check.due("again", x.again(1), 0);
            check.due("alive", x.alive(), 7);
            for (int slot = 0; slot < 8; slot++) {
                check.due("read", x.read(1, slot), slot == object ? REFUSED : 50 + slot);
            }
            check.due("a second time", x.destroy(1, object), REFUSED);
            check.due("alive", x.alive(), 7);
            check.due("it is the free one", x.create(0, 0), object);
        }
    }

    private static void allForIt(Check check) {
        for (int by : ManyForOne.ABLE) {
            CapabilityServer x = ManyForOne.open(4);
            check.due("destroy", x.destroy(by >> 3, by & 7), 0);
            for (int place : ManyForOne.HOLDERS) {
                check.due("place " + place, x.genuine(place >> 3, place & 7), false);
            }
            check.due("the other object's", x.genuine(0, 7), true);
        }
    }

    private static void alsoIfMadeAgain(Check check) {
        for (int by : ManyForOne.ABLE) {
            CapabilityServer x = ManyForOne.open(4);
            x.destroy(by >> 3, by & 7);
            check.due("made again", x.create(1, 6), 1);
            x.add(1, 6, 9);
            for (int place : ManyForOne.HOLDERS) {
                check.due("genuine", x.genuine(place >> 3, place & 7), false);
                check.due("read", x.read(place >> 3, place & 7), REFUSED);
                check.due("destroy", x.destroy(place >> 3, place & 7), REFUSED);
                check.due("revoke", x.revoke(place >> 3, place & 7), REFUSED);
            }
            check.due("the new one", x.read(1, 6), 9);
        }
    }

    // Each life leaves one copy behind; none of them may come back in a later life.
    private static void madeAgainAndAgain(Check check) {
        CapabilityServer x = new CapabilityServer(6);
        for (int life = 0; life < 40; life++) {
            check.due("create", x.create(0, 0), 0);
            for (int place = 1; place < 8; place++) {
                check.due("life " + life + ", an older one", x.genuine(0, place), false);
            }
            check.due("life " + life, x.genuine(0, 0), true);
            x.copy(0, 0, 1 + life % 7);
            check.due("destroy", x.destroy(0, 0), 0);
        }
        for (int lives = 1; lives <= 254; lives++) {
            CapabilityServer y = new CapabilityServer(lives);
            y.create(0, 0);
            y.copy(0, 0, 8);
            for (int i = 0; i < lives; i++) {
                y.destroy(0, 0);
                y.create(0, 0);
            }
            check.due("the first one, " + lives + " lives later", y.genuine(1, 0), false);
            check.due("the new one", y.genuine(0, 0), true);
        }
    }

    private static void changedMeanwhile(Check check) {
        CapabilityServer x = ManyForOne.changedMeanwhile(check, CapabilityServer::destroy);
        x.create(0, 4);
        check.due("one for it, made again", x.genuine(0, 2), false);
        check.due("one that only named it", x.genuine(0, 3), true);
        x.tamper(0, 2, 16);
        x.tamper(0, 4, 16);
        check.due("neither reaches object 1", x.genuine(0, 2), false);
        check.due("neither reaches object 1", x.genuine(0, 4), false);
    }
}
