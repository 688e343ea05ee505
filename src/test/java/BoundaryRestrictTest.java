/** Promise 7, sentence by sentence. */
public final class BoundaryRestrictTest {
    private static final int BAD_USER = CapabilityServer.BAD_USER;
    private static final int BAD_SLOT = CapabilityServer.BAD_SLOT;
    private static final int REFUSED = CapabilityServer.REFUSED;
    private static final int BAD_RIGHTS = CapabilityServer.BAD_RIGHTS;
    private static final int LOST = CapabilityServer.LOST;
    private static final int[] NO_RIGHTS =
        {-1, -2, -15, -16, 16, 17, 31, 32, 255, 256, 271, 65536, Integer.MIN_VALUE, Integer.MAX_VALUE};

    public static void main(String[] args) {
        Sentences promise = new Sentences();
        Boundary.Call from = (x, user, slot) -> x.restrict(user, slot, Scene.BARE, 3);
        Boundary.Call to = (x, user, slot) -> x.restrict(user, Scene.WHOLE, slot, 3);
        Boundary.Call both = (x, user, slot) -> x.restrict(user, slot, slot, 3);
        promise.holds("7: BAD_USER", check -> Boundary.badUser(check, both));
        promise.holds("7: BAD_USER comes first", BoundaryRestrictTest::badUserFirst);
        promise.holds("7: from not in 0 to 7: BAD_SLOT", check -> Boundary.badSlot(check, from));
        promise.holds("7: to not in 0 to 7: BAD_SLOT", check -> Boundary.badSlot(check, to));
        promise.holds("7: both not in 0 to 7: BAD_SLOT", check -> Boundary.badSlot(check, both));
        promise.holds("7: from in 0 to 7 is good", check -> Boundary.everyGoodSlot(check, from));
        promise.holds("7: to in 0 to 7 is good", check -> Boundary.everyGoodSlot(check, to));
        promise.holds("7: a bad to with a from that is not genuine: BAD_SLOT", BoundaryRestrictTest::badToFirst);
        promise.holds("7: rights not in 0 to 15: BAD_RIGHTS", BoundaryRestrictTest::badRights);
        promise.holds("7: rights 0 to 15 are good", BoundaryRestrictTest::goodRights);
        promise.holds("7: BAD_RIGHTS (this is no request)", BoundaryRestrictTest::badRightsIsNoRequest);
        promise.holds("7: BAD_SLOT comes before BAD_RIGHTS", BoundaryRestrictTest::badSlotBeforeBadRights);
        promise.holds("7: BAD_RIGHTS comes before REFUSED", BoundaryRestrictTest::badRightsBeforeRefused);
        promise.holds("7: the one in slot from is not genuine: REFUSED", BoundaryRestrictTest::refused);
        promise.holds("7: the one in slot to may be anything", BoundaryRestrictTest::toMayBeAnything);
        promise.holds("7: it takes no right to restrict", BoundaryRestrictTest::takesNoRight);
        promise.holds("7: only those of its rights that are in 'rights' too", BoundaryRestrictTest::onlyThose);
        promise.holds("7: for the object of slot 'from'", BoundaryRestrictTest::objectOfFrom);
        promise.holds("7: slot 'to' of the user", BoundaryRestrictTest::slotOfTheUser);
        promise.holds("7: slot 'from' keeps what it holds", BoundaryRestrictTest::fromKeeps);
        promise.holds("7: slot 'to' may be slot 'from'", BoundaryRestrictTest::toMayBeFrom);
        promise.holds("7: the new one is given out like any other", BoundaryRestrictTest::likeAnyOther);
        promise.finish();
    }

    private static void badUserFirst(Check check) {
        Boundary.badUserComesFirst(check, (x, user, slot) -> x.restrict(user, slot, 0, 3));
        Boundary.badUserComesFirst(check, (x, user, slot) -> x.restrict(user, 0, slot, 3));
        Boundary.badUserComesFirst(check, (x, user, slot) -> x.restrict(user, slot, slot, 16));
        for (int rights : NO_RIGHTS) {
            Boundary.Call call = (x, user, slot) -> x.restrict(user, slot, slot, rights);
            for (int user : Boundary.BAD_USERS) {
                Boundary.idle(check, "restrict to " + rights, Scene::open, call, new int[] {user, 0}, BAD_USER);
            }
        }
    }

    private static void badToFirst(Check check) {
        for (int from : Scene.NOT_GENUINE) {
            Boundary.badSlot(check, (x, user, slot) -> x.restrict(user, from, slot, 15));
        }
    }

    private static void badRights(Check check) {
        for (int rights : NO_RIGHTS) {
            Boundary.Call call = (x, user, slot) -> x.restrict(user, Scene.WHOLE, slot, rights);
            for (int user = 0; user < 2; user++) {
                for (int to = 0; to < 8; to++) {
                    Boundary.idle(check, "restrict to " + rights, Scene::open, call, new int[] {user, to}, BAD_RIGHTS);
                }
            }
        }
    }

    private static void goodRights(Check check) {
        for (int rights = 0; rights < 16; rights++) {
            CapabilityServer x = Scene.open();
            check.due("restrict to " + rights, x.restrict(1, Scene.WHOLE, 5, rights), rights);
            check.due("rights", x.rights(1, 5), rights);
            check.due("genuine", x.genuine(1, 5), true);
        }
    }

    private static void badRightsIsNoRequest(Check check) {
        for (int rights : NO_RIGHTS) {
            CapabilityServer x = new CapabilityServer(2);
            x.create(0, 0);
            x.add(0, 0, 60);
            x.copy(0, 0, 8);
            check.due("with a request before", x.restrict(0, 0, 1, rights), BAD_RIGHTS);
            check.due("the last answer", x.again(0), 60);
            check.due("without one", x.restrict(1, 0, 1, rights), BAD_RIGHTS);
            check.due("none was made", x.again(1), LOST);
            x.restart();
            check.due("after a restart", x.restrict(0, 0, 1, rights), BAD_RIGHTS);
            check.due("the answer stays lost", x.again(0), LOST);
        }
    }

    private static void badSlotBeforeBadRights(Check check) {
        for (int rights : NO_RIGHTS) {
            Boundary.badSlot(check, (x, user, slot) -> x.restrict(user, slot, 1, rights));
            Boundary.badSlot(check, (x, user, slot) -> x.restrict(user, 0, slot, rights));
        }
    }

    private static void badRightsBeforeRefused(Check check) {
        for (int rights : NO_RIGHTS) {
            Boundary.Call call = (x, user, slot) -> x.restrict(user, slot, Scene.BARE, rights);
            for (int from : Scene.NOT_GENUINE) {
                Boundary.idle(check, "restrict to " + rights, Scene::open, call, new int[] {0, from}, BAD_RIGHTS);
                Boundary.idle(check, "restrict to " + rights, Scene::open, call, new int[] {1, from}, BAD_RIGHTS);
            }
        }
    }

    private static void refused(Check check) {
        for (int rights : new int[] {0, 1, 8, 15}) {
            for (int to = 0; to < 8; to++) {
                int at = to;
                Boundary.refusesWhatIsNotGenuine(check, (x, user, slot) -> x.restrict(user, slot, at, rights));
            }
        }
    }

    private static void toMayBeAnything(Check check) {
        for (int user = 0; user < 2; user++) {
            for (int to = 0; to < 8; to++) {
                CapabilityServer x = Scene.open();
                check.due("restrict into slot " + to, x.restrict(user, Scene.WHOLE, to, 7), 7);
                check.due("rights", x.rights(user, to), 7);
                check.due("read", x.read(user, to), Scene.own(user));
            }
        }
    }

    private static void takesNoRight(Check check) {
        for (int rights = 0; rights < 16; rights++) {
            CapabilityServer x = Boundary.withRights(rights);
            check.due("restrict one with " + rights, x.restrict(0, 2, 3, 15), rights);
            check.due("genuine", x.genuine(0, 3), true);
            check.due("rights", x.rights(0, 3), rights);
        }
    }

    private static void onlyThose(Check check) {
        for (int has = 0; has < 16; has++) {
            for (int mask = 0; mask < 16; mask++) {
                CapabilityServer x = Boundary.withRights(has);
                int left = has & mask;
                String what = has + " with " + mask + ": ";
                check.due(what + "restrict", x.restrict(1, 2, 5, mask), left);
                check.due(what + "again", x.again(1), left);
                check.due(what + "rights", x.rights(1, 5), left);
                check.due(what + "genuine", x.genuine(1, 5), true);
                check.due(what + "READ", x.read(1, 5), (left & 1) == 0 ? REFUSED : 31);
                check.due(what + "ADD", x.add(1, 5, 1), (left & 2) == 0 ? REFUSED : 32);
                check.due(what + "REVOKE", x.revoke(1, 5), (left & 8) == 0 ? REFUSED : 0);
                check.due(what + "DESTROY", x.destroy(1, 5), (left & 4) == 0 ? REFUSED : 0);
            }
        }
    }

    private static void objectOfFrom(Check check) {
        for (int from = 0; from < 8; from++) {
            CapabilityServer x = new CapabilityServer(2);
            for (int object = 0; object < 8; object++) {
                x.create(0, object);
                x.add(0, object, 700 + object);
            }
            int to = 7 - from;
            x.restrict(0, from, to, 5);
            check.due("the object's value", x.read(0, to), 700 + from);
            x.destroy(0, to);
            check.due("the object dies", x.genuine(0, from), false);
            check.due("the one that 'to' held lives", x.create(0, to), from);
        }
    }

    private static void slotOfTheUser(Check check) {
        for (int user = 0; user < 2; user++) {
            for (int to = 0; to < 8; to++) {
                CapabilityServer x = new CapabilityServer(2);
                x.create(user, 4);
                x.restrict(user, 4, to, 6);
                for (int place = 0; place < 16; place++) {
                    int due = place == user * 8 + to ? 6 : place == user * 8 + 4 ? 15 : 0;
                    check.due("place " + place, x.rights(place >> 3, place & 7), due);
                }
            }
        }
    }

    private static void fromKeeps(Check check) {
        CapabilityServer x = Boundary.withRights(15);
        x.restrict(0, 2, 6, 0);
        check.due("genuine", x.genuine(0, 2), true);
        check.due("rights", x.rights(0, 2), 15);
        check.due("value", x.read(0, 2), 30);
    }

    private static void toMayBeFrom(Check check) {
        CapabilityServer x = Boundary.withRights(15);
        check.due("first", x.restrict(0, 2, 2, 13), 13);
        check.due("then", x.restrict(0, 2, 2, 11), 9);
        check.due("what is gone stays gone", x.restrict(0, 2, 2, 15), 9);
        check.due("genuine", x.genuine(0, 2), true);
        check.due("READ is left", x.read(0, 2), 30);
        check.due("to none", x.restrict(0, 2, 2, 0), 0);
        check.due("genuine with none", x.genuine(0, 2), true);
        check.due("READ is gone", x.read(0, 2), REFUSED);
    }

    private static void likeAnyOther(Check check) {
        CapabilityServer x = Boundary.withRights(9);
        x.copy(0, 2, 12);
        check.due("a copy is genuine", x.genuine(1, 4), true);
        x.tamper(1, 4, 6);
        check.due("all rights made up", x.rights(1, 4), 15);
        check.due("not genuine", x.genuine(1, 4), false);
        x.tamper(1, 4, 6);
        check.due("undone", x.genuine(1, 4), true);
        x.revoke(0, 0);
        check.due("revoked with the others", x.genuine(1, 4), false);
        check.due("revoked with the others", x.genuine(0, 2), false);
    }
}
