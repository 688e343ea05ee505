/** Promise 8, sentence by sentence. */
public final class BoundaryAgainTest {
    private static final int BAD_USER = CapabilityServer.BAD_USER;
    private static final int REFUSED = CapabilityServer.REFUSED;
    private static final int FULL = CapabilityServer.FULL;
    private static final int LOST = CapabilityServer.LOST;

    public static void main(String[] args) {
        Sentences promise = new Sentences();
        promise.holds("8: BAD_USER", BoundaryAgainTest::badUser);
        promise.holds("8: the user has made no request: LOST", BoundaryAgainTest::noRequest);
        promise.holds("8: the server has lost its answer: LOST", BoundaryAgainTest::lost);
        promise.holds("8: LOST until the user's next request", BoundaryAgainTest::lostUntilTheNext);
        promise.holds("8: the last request, not an earlier one", BoundaryAgainTest::theLastOne);
        promise.holds("8: the user's, not the other user's", BoundaryAgainTest::theUsers);
        promise.holds("8: nothing changes", BoundaryAgainTest::nothingChanges);
        promise.holds("8: nothing changes, for each kind of request", BoundaryAgainTest::noSecondEffect);
        promise.holds("8: as it was: what it would answer now doesn't count", BoundaryAgainTest::asItWas);
        promise.holds("8: else answers what that request answered", BoundaryAgainTest::whatItAnswered);
        promise.holds("8: also if that was refused", BoundaryAgainTest::alsoIfRefused);
        promise.holds("8: also if that answer equals LOST or BAD_USER", BoundaryAgainTest::answersThatEqual);
        promise.holds("8: also if that answer is a great or small value", BoundaryAgainTest::greatAndSmall);
        promise.holds("8: again is a request too", BoundaryAgainTest::againOfAgain);
        promise.finish();
    }

    private static void badUser(Check check) {
        Boundary.Call again = (x, user, slot) -> x.again(user);
        for (int user : Boundary.BAD_USERS) {
            int[] at = {user, 0};
            Boundary.idle(check, "again", Scene::open, again, at, BAD_USER);
            Boundary.idle(check, "again, none made", () -> new CapabilityServer(3), again, at, BAD_USER);
        }
    }

    private static void noRequest(Check check) {
        for (int user = 0; user < 2; user++) {
            CapabilityServer x = new CapabilityServer(3);
            check.due("again", x.again(user), LOST);
            x.create(1 - user, 0);
            x.add(1 - user, 0, 8);
            check.due("the other user has made one", x.again(user), LOST);
            check.due("whose answer stays", x.again(1 - user), 8);
            x.copy(1 - user, 0, user * 8);
            x.tamper(user, 0, 0);
            x.genuine(user, 0);
            x.rights(user, 0);
            x.clear(user, 1);
            x.create(user, 8);
            x.restrict(user, 0, 1, 16);
            check.due("none of these was one", x.again(user), LOST);
        }
    }

    private static void lost(Check check) {
        CapabilityServer x = Scene.open();
        x.restart();
        check.due("again(0)", x.again(0), LOST);
        check.due("again(1)", x.again(1), LOST);
        check.due("a second time", x.again(0), LOST);
        check.due("a second time", x.again(1), LOST);
        CapabilityServer without = Scene.open();
        check.due("no thing changed", Scene.things(x), Scene.things(without));
    }

    private static void lostUntilTheNext(Check check) {
        for (int user = 0; user < 2; user++) {
            CapabilityServer x = Scene.open();
            x.restart();
            x.read(user, Scene.WHOLE);
            check.due("the user's", x.again(user), Scene.own(user));
            check.due("the other's", x.again(1 - user), LOST);
            x.read(user, Scene.EMPTY);
            x.restart();
            x.read(user, Scene.EMPTY);
            check.due("a refused one is kept too", x.again(user), REFUSED);
            check.due("the other's", x.again(1 - user), LOST);
        }
    }

    private static void theLastOne(Check check) {
        CapabilityServer x = Scene.open();
        for (int i = 1; i <= 50; i++) {
            x.add(0, Scene.WHOLE, 1);
            check.due("again", x.again(0), 100 + i);
        }
        x.read(0, Scene.EMPTY);
        check.due("again", x.again(0), REFUSED);
        x.create(0, Scene.EMPTY);
        check.due("again", x.again(0), 4);
    }

    private static void theUsers(Check check) {
        CapabilityServer x = Scene.open();
        check.due("again(1)", x.again(1), 200);
        check.due("again(0)", x.again(0), 100);
        x.add(0, Scene.WHOLE, 7);
        check.due("again(1)", x.again(1), 200);
        x.add(1, Scene.WHOLE, 7);
        check.due("again(0)", x.again(0), 107);
        check.due("again(1)", x.again(1), 207);
    }

    private static void nothingChanges(Check check) {
        Boundary.Call again = (x, user, slot) -> x.again(user);
        for (int user = 0; user < 2; user++) {
            int[] at = {user, 0};
            Boundary.idle(check, "again", Scene::open, again, at, Scene.own(user));
            Boundary.idle(check, "again, none made", () -> new CapabilityServer(3), again, at, LOST);
        }
    }

    /** The request is sent again once here and not there; both must stay alike. */
    private static void noSecondEffect(Check check, String what, Boundary.Call request) {
        for (int user = 0; user < 2; user++) {
            CapabilityServer x = Scene.open();
            CapabilityServer without = Scene.open();
            int answer = request.on(x, user, Scene.WHOLE);
            request.on(without, user, Scene.WHOLE);
            check.due("again of " + what, x.again(user), answer);
            check.due("and once more", x.again(user), answer);
            check.due("things after " + what, Scene.things(x), Scene.things(without));
        }
    }

    private static void noSecondEffect(Check check) {
        noSecondEffect(check, "create", CapabilityServer::create);
        noSecondEffect(check, "read", CapabilityServer::read);
        noSecondEffect(check, "add", (x, user, slot) -> x.add(user, slot, 9));
        noSecondEffect(check, "destroy", CapabilityServer::destroy);
        noSecondEffect(check, "revoke and copy", (x, user, slot) -> {
            int answer = x.revoke(user, slot);
            x.copy(user, slot, user * 8 + Scene.EMPTY);
            return answer;
        });
        noSecondEffect(check, "restrict and clear", (x, user, slot) -> {
            int answer = x.restrict(user, slot, Scene.EMPTY, 6);
            x.clear(user, Scene.EMPTY);
            return answer;
        });
        noSecondEffect(check, "destroy and create by the other", (x, user, slot) -> {
            int answer = x.destroy(user, slot);
            x.create(1 - user, Scene.EMPTY);
            x.copy(1 - user, Scene.EMPTY, user * 8 + slot);
            return answer;
        });
    }

    private static void asItWas(Check check) {
        CapabilityServer x = Scene.open();
        x.read(0, Scene.EMPTY);
        x.copy(0, Scene.WHOLE, Scene.EMPTY);
        check.due("it would no longer be refused", x.again(0), REFUSED);
        x.read(0, Scene.WHOLE);
        x.copy(0, Scene.WHOLE, 8 + Scene.EMPTY);
        x.add(1, Scene.EMPTY, 5);
        check.due("the value is another one", x.again(0), 100);
        x.clear(0, Scene.WHOLE);
        check.due("the slot is empty", x.again(0), 100);
        x.destroy(1, Scene.EMPTY);
        check.due("the object isn't alive", x.again(0), 100);
        CapabilityServer full = Scene.full();
        full.create(0, Scene.EMPTY);
        full.destroy(1, Scene.WHOLE);
        check.due("there is room", full.again(0), FULL);
        check.due("none was made", full.alive(), 7);
    }

    private static void whatItAnswered(Check check) {
        for (int user = 0; user < 2; user++) {
            CapabilityServer x = Scene.open();
            check.due("create", x.create(user, Scene.EMPTY), 4);
            check.due("again of create", x.again(user), 4);
            check.due("read", x.read(user, Scene.WHOLE), Scene.own(user));
            check.due("again of read", x.again(user), Scene.own(user));
            check.due("add", x.add(user, Scene.WHOLE, 9), Scene.own(user) + 9);
            check.due("again of add", x.again(user), Scene.own(user) + 9);
            check.due("revoke", x.revoke(user, Scene.WHOLE), 0);
            check.due("again of revoke", x.again(user), 0);
            check.due("restrict", x.restrict(user, Scene.WHOLE, 6, 13), 13);
            check.due("again of restrict", x.again(user), 13);
            check.due("destroy", x.destroy(user, Scene.WHOLE), 0);
            check.due("again of destroy", x.again(user), 0);
        }
    }

    private static void alsoIfRefused(Check check) {
        Boundary.Call[] requests = {
            CapabilityServer::read, (x, user, slot) -> x.add(user, slot, 1), CapabilityServer::destroy,
            CapabilityServer::revoke, (x, user, slot) -> x.restrict(user, slot, 0, 1)};
        for (Boundary.Call request : requests) {
            for (int user = 0; user < 2; user++) {
                CapabilityServer x = Scene.open();
                check.due("refused", request.on(x, user, Scene.EMPTY), REFUSED);
                check.due("again", x.again(user), REFUSED);
                check.due("the other's", x.again(1 - user), Scene.own(1 - user));
            }
        }
        CapabilityServer full = Scene.full();
        full.create(1, 0);
        check.due("again of FULL", full.again(1), FULL);
        check.due("the other's", full.again(0), 100);
    }

    private static void answersThatEqual(Check check) {
        for (int value = -7; value <= 0; value++) {
            CapabilityServer x = new CapabilityServer(3);
            x.create(0, 0);
            x.copy(0, 0, 8);
            check.due("add", x.add(0, 0, value), value);
            check.due("read", x.read(1, 0), value);
            check.due("again(0)", x.again(0), value);
            check.due("again(1)", x.again(1), value);
            check.due("the value stays", x.read(0, 0), value);
        }
    }

    private static void greatAndSmall(Check check) {
        int[] values = {127, 128, -129, 32767, 32768, -32769, 1 << 30, Integer.MAX_VALUE, Integer.MIN_VALUE};
        for (int value : values) {
            CapabilityServer x = new CapabilityServer(3);
            x.create(1, 0);
            x.add(1, 0, value);
            check.due("again of add", x.again(1), value);
            x.create(1, 1);
            x.read(1, 0);
            check.due("again of read", x.again(1), value);
        }
    }

    private static void againOfAgain(Check check) {
        CapabilityServer x = Scene.open();
        for (int i = 0; i < 100; i++) {
            check.due("again(0)", x.again(0), 100);
            check.due("again(1)", x.again(1), 200);
        }
        x.restart();
        for (int i = 0; i < 10; i++) {
            check.due("again(0) of a LOST one", x.again(0), LOST);
        }
    }
}
