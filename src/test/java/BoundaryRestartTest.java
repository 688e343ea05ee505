/** Promise 12, sentence by sentence. */
public final class BoundaryRestartTest {
    private static final int REFUSED = CapabilityServer.REFUSED;
    private static final int FULL = CapabilityServer.FULL;
    private static final int LOST = CapabilityServer.LOST;

    public static void main(String[] args) {
        Sentences promise = new Sentences();
        promise.holds("12: objects stay", BoundaryRestartTest::objectsStay);
        promise.holds("12: values stay", BoundaryRestartTest::valuesStay);
        promise.holds("12: secrets stay", BoundaryRestartTest::secretsStay);
        promise.holds("12: no secret comes back", BoundaryRestartTest::noSecretComesBack);
        promise.holds("12: what the slots hold stays", BoundaryRestartTest::slotsStay);
        promise.holds("12: the answers that it kept are lost", BoundaryRestartTest::answersAreLost);
        promise.holds("12: of each user, whichever made requests", BoundaryRestartTest::ofEachUser);
        promise.holds("12: it starts again, and keeps new answers", BoundaryRestartTest::keepsNewAnswers);
        promise.holds("12: a restart of a new object", BoundaryRestartTest::ofANewObject);
        promise.finish();
    }

    private static void objectsStay(Check check) {
        for (int count = 0; count <= 8; count++) {
            CapabilityServer x = new CapabilityServer(12);
            for (int object = 0; object < count; object++) {
                x.create(0, object);
            }
            x.restart();
            check.due("alive", x.alive(), count);
            check.due("the next", x.create(1, 0), count == 8 ? FULL : count);
        }
    }

    private static void valuesStay(Check check) {
        int[] values = {0, 1, -1, -3, -6, 99, Integer.MIN_VALUE, Integer.MAX_VALUE};
        CapabilityServer x = new CapabilityServer(12);
        for (int object = 0; object < 8; object++) {
            x.create(0, object);
            x.add(0, object, values[object]);
        }
        x.restart();
        for (int object = 0; object < 8; object++) {
            check.due("read", x.read(0, object), values[object]);
        }
    }

    private static void secretsStay(Check check) {
        CapabilityServer x = new CapabilityServer(12);
        for (int object = 0; object < 8; object++) {
            x.create(0, object);
            x.copy(0, object, 8 + object);
            x.tamper(1, object, 127);
        }
        x.restart();
        for (int object = 0; object < 8; object++) {
            check.due("genuine", x.genuine(0, object), true);
            x.tamper(1, object, 127);
            check.due("one changed before, undone after", x.genuine(1, object), true);
        }
    }

    // Starting the secrets anew from the seed would give an old one out a second time.
    private static void noSecretComesBack(Check check) {
        CapabilityServer x = new CapabilityServer(12);
        x.create(0, 0);
        x.copy(0, 0, 1);
        x.destroy(0, 0);
        x.restart();
        check.due("made again", x.create(0, 0), 0);
        check.due("the one from before", x.genuine(0, 1), false);
        x.copy(0, 0, 2);
        x.revoke(0, 0);
        x.restart();
        check.due("revoked stays revoked", x.genuine(0, 2), false);
        x.revoke(0, 0);
        check.due("the one from before", x.genuine(0, 1), false);
        check.due("the one from before", x.genuine(0, 2), false);
        x.restart();
        x.revoke(0, 0);
        check.due("the one from before", x.genuine(0, 1), false);
        check.due("the one from before", x.genuine(0, 2), false);
        check.due("the slot's new one", x.genuine(0, 0), true);
    }

    private static void slotsStay(Check check) {
        for (int times = 1; times <= 3; times++) {
            CapabilityServer x = Scene.open();
            for (int i = 0; i < times; i++) {
                x.restart();
            }
            check.due("things", Scene.things(x), Scene.things(Scene.open()));
        }
        CapabilityServer full = Scene.full();
        full.restart();
        check.due("things", Scene.things(full), Scene.things(Scene.full()));
    }

    private static void answersAreLost(Check check) {
        CapabilityServer x = Scene.open();
        x.restart();
        check.due("last answers", Scene.answers(x), LOST + " " + LOST);
        CapabilityServer y = Scene.full();
        y.create(0, 0);
        y.read(1, Scene.EMPTY);
        check.due("last answers", Scene.answers(y), FULL + " " + REFUSED);
        y.restart();
        check.due("also those that told of a fault", Scene.answers(y), LOST + " " + LOST);
    }

    private static void ofEachUser(Check check) {
        for (int user = 0; user < 2; user++) {
            CapabilityServer x = new CapabilityServer(12);
            x.create(user, 0);
            x.add(user, 0, 44);
            x.restart();
            check.due("the one that made some", x.again(user), LOST);
            check.due("the one that made none", x.again(1 - user), LOST);
        }
    }

    private static void keepsNewAnswers(Check check) {
        CapabilityServer x = Scene.open();
        for (int i = 1; i <= 10; i++) {
            x.restart();
            check.due("add", x.add(0, 0, 1), 100 + i);
            check.due("again", x.again(0), 100 + i);
            check.due("the other's", x.again(1), LOST);
        }
    }

    private static void ofANewObject(Check check) {
        CapabilityServer x = new CapabilityServer(12);
        x.restart();
        check.due("last answers", Scene.answers(x), LOST + " " + LOST);
        check.due("things", Scene.things(x), Scene.things(new CapabilityServer(12)));
    }
}
