/** Promise 3, sentence by sentence. */
public final class BoundaryReadTest {
    public static void main(String[] args) {
        Sentences promise = new Sentences();
        Boundary.Call read = CapabilityServer::read;
        promise.holds("3: BAD_USER", check -> Boundary.badUser(check, read));
        promise.holds("3: BAD_USER comes first", check -> Boundary.badUserComesFirst(check, read));
        promise.holds("3: BAD_SLOT", check -> Boundary.badSlot(check, read));
        promise.holds("3: users 0 and 1, slots 0 to 7 are good", check -> Boundary.everyGoodSlot(check, read));
        promise.holds("3: not genuine: REFUSED", check -> Boundary.refusesWhatIsNotGenuine(check, read));
        promise.holds("3: without READ: REFUSED", check -> Boundary.refusesWithout(check, 1, read));
        promise.holds("3: READ is enough", check -> Boundary.enoughIs(check, 1, read, new int[] {30, 31}));
        promise.holds("3: reads the value of the slot's object", BoundaryReadTest::theSlotsObject);
        promise.holds("3: (Values may equal these.)", BoundaryReadTest::valuesMayEqualAnswers);
        promise.holds("3: reading changes no thing", BoundaryReadTest::changesNoThing);
        promise.finish();
    }

    private static void theSlotsObject(Check check) {
        CapabilityServer x = new CapabilityServer(8);
        for (int object = 0; object < 8; object++) {
            x.create(0, object);
            x.add(0, object, 1000 + object);
            x.copy(0, object, 15 - object);
        }
        for (int object = 0; object < 8; object++) {
            check.due("read", x.read(0, object), 1000 + object);
            check.due("read by the other user", x.read(1, 7 - object), 1000 + object);
        }
    }

    private static void valuesMayEqualAnswers(Check check) {
        for (int value = -7; value <= 0; value++) {
            CapabilityServer x = new CapabilityServer(8);
            x.create(1, 6);
            x.add(1, 6, value);
            x.create(0, 0);
            check.due("read", x.read(1, 6), value);
            check.due("again", x.again(1), value);
            check.due("read twice", x.read(1, 6), value);
            check.due("it stays genuine", x.genuine(1, 6), true);
        }
    }

    private static void changesNoThing(Check check) {
        for (int user = 0; user < 2; user++) {
            int[] at = {user, Scene.WHOLE};
            int due = Scene.own(user);
            Boundary.idleRequest(check, "read", Scene::open, CapabilityServer::read, at, due);
        }
    }
}
