/** Promise 9, sentence by sentence. */
public final class BoundaryCopyTest {
    private static final int BAD_USER = CapabilityServer.BAD_USER;
    private static final int BAD_SLOT = CapabilityServer.BAD_SLOT;
    // Whatever stands above the four low bits of 'to' doesn't count.
    private static final int[] ABOVE =
        {0, 16, 32, 48, 128, 256, 65536, -16, -32, Integer.MIN_VALUE, Integer.MAX_VALUE - 15};

    public static void main(String[] args) {
        Sentences promise = new Sentences();
        Boundary.Call copy = (x, user, slot) -> x.copy(user, slot, 9);
        promise.holds("9: BAD_USER", check -> Boundary.badUser(check, copy));
        promise.holds("9: BAD_USER comes first", check -> Boundary.badUserComesFirst(check, copy));
        promise.holds("9: from not in 0 to 7: BAD_SLOT", check -> Boundary.badSlot(check, copy));
        promise.holds("9: from in 0 to 7 is good", check -> Boundary.everyGoodSlot(check, copy));
        promise.holds("9: BAD_USER and BAD_SLOT whatever 'to' is", BoundaryCopyTest::badWhateverTo);
        promise.holds("9: 'toUser' is to >> 3 & 1, the slot to & 7", BoundaryCopyTest::toIsMasked);
        promise.holds("9: what slot 'from' of user 'user' holds", BoundaryCopyTest::fromOfTheUser);
        promise.holds("9: number for number", BoundaryCopyTest::numberForNumber);
        promise.holds("9: also if it is empty", BoundaryCopyTest::alsoIfEmpty);
        promise.holds("9: also if it is not genuine", BoundaryCopyTest::alsoIfNotGenuine);
        promise.holds("9: the slot copied keeps what it holds", BoundaryCopyTest::fromKeeps);
        promise.holds("9: onto itself changes nothing", BoundaryCopyTest::ontoItself);
        promise.holds("9: from then on each stands alone", BoundaryCopyTest::eachStandsAlone);
        promise.holds("9: else answers 0, and is no request", BoundaryCopyTest::noRequest);
        promise.finish();
    }

    private static void badWhateverTo(Check check) {
        for (int to : new int[] {0, 7, 8, 15, 16, -1, Integer.MIN_VALUE, Integer.MAX_VALUE}) {
            Boundary.Call call = (x, user, slot) -> x.copy(user, slot, to);
            for (int user : Boundary.BAD_USERS) {
                Boundary.idle(check, "copy to " + to, Scene::open, call, new int[] {user, 0}, BAD_USER);
            }
            for (int from : Boundary.BAD_SLOTS) {
                Boundary.idle(check, "copy to " + to, Scene::open, call, new int[] {0, from}, BAD_SLOT);
                Boundary.idle(check, "copy to " + to, Scene::open, call, new int[] {1, from}, BAD_SLOT);
            }
        }
    }

    private static void toIsMasked(Check check) {
        for (int above : ABOVE) {
            for (int low = 0; low < 16; low++) {
                CapabilityServer x = new CapabilityServer(9);
                x.create(0, 0);
                x.restrict(0, 0, 1, 6);
                check.due("copy to " + (above + low), x.copy(0, 1, above + low), 0);
                for (int place = 0; place < 16; place++) {
                    int due = place == low || place == 1 ? 6 : place == 0 ? 15 : 0;
                    check.due("place " + place, x.rights(place / 8, place % 8), due);
                }
            }
        }
    }

    private static void fromOfTheUser(Check check) {
        for (int place = 0; place < 16; place++) {
            CapabilityServer x = new CapabilityServer(9);
            x.create(0, 0);
            for (int mark = 15; mark >= 0; mark--) {
                x.restrict(0, 0, 1, 15 - mark);
                x.copy(0, 1, mark);
            }
            // Place 1 was the way to the others, so that it now holds what place 0 holds.
            int due = place == 1 ? 15 : 15 - place;
            int to = (place + 5) % 16;
            x.copy(place / 8, place % 8, to);
            check.due("what place " + place + " held", x.rights(to / 8, to % 8), due);
        }
    }

    private static void numberForNumber(Check check) {
        for (int bits = 0; bits < 128; bits++) {
            CapabilityServer x = new CapabilityServer(9);
            x.create(0, 0);
            x.create(0, 1);
            x.tamper(0, 1, bits);
            x.copy(0, 1, 13);
            check.due("rights", x.rights(1, 5), 15 ^ bits & 15);
            check.due("genuine", x.genuine(1, 5), bits == 0);
            x.tamper(1, 5, bits);
            check.due("genuine when undone in the copy", x.genuine(1, 5), true);
            x.destroy(0, 0);
            check.due("it is for object 1", x.read(1, 5), 0);
        }
    }

    private static void alsoIfEmpty(Check check) {
        for (int user = 0; user < 2; user++) {
            for (int to = 0; to < 16; to++) {
                CapabilityServer x = Scene.open();
                check.due("copy", x.copy(user, Scene.EMPTY, to), 0);
                check.due("rights", x.rights(to / 8, to % 8), 0);
                check.due("genuine", x.genuine(to / 8, to % 8), false);
                check.due("tamper", x.tamper(to / 8, to % 8, 1), CapabilityServer.REFUSED);
                check.due("clear", x.clear(to / 8, to % 8), 0);
                check.due("nothing dies of it", x.alive(), 4);
            }
        }
    }

    private static void alsoIfNotGenuine(Check check) {
        int[] notGenuine =
            {Scene.OTHER_RIGHTS, Scene.OTHER_OBJECT, Scene.REVOKED, Scene.DEAD, Scene.MADE_AGAIN};
        for (int from : notGenuine) {
            for (int user = 0; user < 2; user++) {
                CapabilityServer x = Scene.open();
                int due = x.rights(user, from);
                check.due("copy", x.copy(user, from, 8), 0);
                check.due("rights", x.rights(1, 0), due);
                check.due("genuine", x.genuine(1, 0), false);
                check.due("clear", x.clear(1, 0), 1);
            }
        }
    }

    private static void fromKeeps(Check check) {
        for (int from = 0; from < 8; from++) {
            CapabilityServer x = Scene.open();
            int rights = x.rights(0, from);
            boolean genuine = x.genuine(0, from);
            x.copy(0, from, 8 + Scene.EMPTY);
            check.due("rights", x.rights(0, from), rights);
            check.due("genuine", x.genuine(0, from), genuine);
            check.due("clear", x.clear(0, from), from == Scene.EMPTY ? 0 : 1);
        }
    }

    private static void ontoItself(Check check) {
        for (int above : ABOVE) {
            Boundary.Call call = (x, user, slot) -> x.copy(user, slot, above + user * 8 + slot);
            for (int place = 0; place < 16; place++) {
                int[] at = {place / 8, place % 8};
                Boundary.idle(check, "copy onto itself", Scene::open, call, at, 0);
            }
        }
    }

    private static void eachStandsAlone(Check check) {
        CapabilityServer x = Scene.open();
        x.copy(0, Scene.WHOLE, 15);
        x.tamper(0, Scene.WHOLE, 127);
        check.due("the first is changed", x.genuine(1, 7), true);
        x.copy(1, 7, 0);
        x.tamper(1, 7, 1);
        check.due("the copy is changed", x.genuine(0, 0), true);
        x.clear(1, 7);
        check.due("the copy is cleared", x.genuine(0, 0), true);
        x.copy(0, 0, 15);
        x.clear(0, 0);
        check.due("the first is cleared", x.genuine(1, 7), true);
        x.create(0, 0);
        check.due("the first holds another one", x.read(1, 7), 100);
    }

    private static void noRequest(Check check) {
        CapabilityServer x = Scene.open();
        for (int from = 0; from < 8; from++) {
            check.due("copy", x.copy(0, from, 8 + Scene.EMPTY), 0);
            check.due("copy", x.copy(1, from, 8 + Scene.EMPTY), 0);
            check.due("last answers", Scene.answers(x), "100 200");
        }
    }
}
