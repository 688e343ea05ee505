import java.util.LinkedHashMap;
import java.util.List;
import java.util.Map;

/** The document's 'Terms', sentence by sentence. */
public final class BoundaryTermsTest {
    private static final int BAD_USER = CapabilityServer.BAD_USER;
    private static final int BAD_SLOT = CapabilityServer.BAD_SLOT;
    private static final int REFUSED = CapabilityServer.REFUSED;
    private static final int FULL = CapabilityServer.FULL;
    private static final int LOST = CapabilityServer.LOST;

    private static final Map<String, Boundary.Call> REQUESTS = new LinkedHashMap<>();
    private static final Map<String, Boundary.Call> OTHERS = new LinkedHashMap<>();

    static {
        REQUESTS.put("create", CapabilityServer::create);
        REQUESTS.put("read", CapabilityServer::read);
        REQUESTS.put("add", (x, user, slot) -> x.add(user, slot, 6));
        REQUESTS.put("destroy", CapabilityServer::destroy);
        REQUESTS.put("revoke", CapabilityServer::revoke);
        REQUESTS.put("restrict from", (x, user, slot) -> x.restrict(user, slot, 1, 15));
        REQUESTS.put("restrict to", (x, user, slot) -> x.restrict(user, 0, slot, 15));
        OTHERS.put("copy", (x, user, slot) -> x.copy(user, slot, 1));
        OTHERS.put("tamper", (x, user, slot) -> x.tamper(user, slot, 1));
        OTHERS.put("clear", CapabilityServer::clear);
        OTHERS.put("rights", CapabilityServer::rights);
    }

    public static void main(String[] args) {
        Sentences terms = new Sentences();
        terms.holds("An object is used for at most 512 calls", BoundaryTermsTest::theLastCall);
        terms.holds("There are OBJECTS 0 to 7, each alive or not", BoundaryTermsTest::objects);
        terms.holds("a living one has a VALUE (an int that wraps)", BoundaryTermsTest::valueWraps);
        terms.holds("Two USERS (0 and 1) have eight SLOTS (0 to 7) each", BoundaryTermsTest::sixteenSlots);
        terms.holds("RIGHTS, a set (a number 0 to 15)", BoundaryTermsTest::rightsAreASet);
        terms.holds("a number which nobody can make without the server", BoundaryTermsTest::nobodyCanMakeOne);
        terms.holds("users may copy them, also to each other", BoundaryTermsTest::usersMayCopy);
        terms.holds("given out by the server for its object as it lives now", BoundaryTermsTest::asItLivesNow);
        terms.holds("was not changed since", BoundaryTermsTest::notChanged);
        terms.holds("(or all changes together undo each other)", BoundaryTermsTest::undone);
        terms.holds("and has not been revoked", BoundaryTermsTest::notRevoked);
        terms.holds("(empty, or not genuine), a call is REFUSED", BoundaryTermsTest::refused);
        terms.holds("the server keeps its last answer for each user", BoundaryTermsTest::keepsTheLast);
        terms.holds("sent again has no effect again", BoundaryTermsTest::noEffectAgain);
        terms.holds("A user not 0 or 1 is BAD_USER, tested first", BoundaryTermsTest::badUserFirst);
        terms.holds("then a slot not in 0 to 7 is BAD_SLOT", BoundaryTermsTest::thenBadSlot);
        terms.holds("neither BAD_USER nor BAD_SLOT is a request", BoundaryTermsTest::badOnesAreNone);
        terms.holds("a request, also if it is refused", BoundaryTermsTest::alsoIfRefused);
        terms.holds("it counts as the user's last one from then on", BoundaryTermsTest::fromThenOn);
        terms.holds("Without the server", BoundaryTermsTest::withoutTheServer);
        terms.holds("change nothing and are no requests", BoundaryTermsTest::looks);
        terms.finish();
    }

    // Each run is 512 calls long, and the last of them must still be right.
    private static void theLastCall(Check check) {
        CapabilityServer x = new CapabilityServer(-1);
        x.create(0, 0);
        x.copy(0, 0, 9);
        for (int call = 3; call <= 510; call++) {
            check.due("revoke, call " + call, x.revoke(0, 0), 0);
        }
        check.due("call 511", x.genuine(0, 0), true);
        check.due("call 512", x.genuine(1, 1), false);
        CapabilityServer y = new CapabilityServer(-1);
        for (int call = 1; call <= 510; call += 2) {
            check.due("create, call " + call, y.create(1, 3), 0);
            check.due("destroy, call " + (call + 1), y.destroy(1, 3), 0);
        }
        check.due("call 511", y.create(0, 0), 0);
        check.due("call 512", y.genuine(1, 3), false);
        CapabilityServer z = new CapabilityServer(-1);
        z.create(0, 0);
        for (int call = 2; call <= 512; call++) {
            check.due("add, call " + call, z.add(0, 0, 1), call - 1);
        }
    }

    private static void objects(Check check) {
        CapabilityServer x = new CapabilityServer(20);
        for (int object = 0; object < 8; object++) {
            check.due("create", x.create(0, object), object);
            check.due("it is alive", x.genuine(0, object), true);
        }
        check.due("there is no object 8", x.create(1, 0), FULL);
        for (int object = 0; object < 8; object++) {
            x.destroy(0, object);
            check.due("it is not alive", x.genuine(0, object), false);
            for (int other = object + 1; other < 8; other++) {
                check.due("the others are", x.genuine(0, other), true);
            }
        }
    }

    private static void valueWraps(Check check) {
        CapabilityServer x = new CapabilityServer(20);
        x.create(0, 0);
        check.due("the greatest", x.add(0, 0, Integer.MAX_VALUE), Integer.MAX_VALUE);
        check.due("one more", x.add(0, 0, 1), Integer.MIN_VALUE);
        check.due("read", x.read(0, 0), Integer.MIN_VALUE);
        check.due("one less", x.add(0, 0, -1), Integer.MAX_VALUE);
        check.due("read", x.read(0, 0), Integer.MAX_VALUE);
        check.due("one more", x.add(0, 0, 1), Integer.MIN_VALUE);
        check.due("twice the least", x.add(0, 0, Integer.MIN_VALUE), 0);
    }

    private static void sixteenSlots(Check check) {
        CapabilityServer x = new CapabilityServer(20);
        x.create(1, 7);
        for (int place = 0; place < 15; place++) {
            x.restrict(1, 7, 6, place);
            x.copy(1, 6, place);
        }
        for (int place = 0; place < 16; place++) {
            check.due("place " + place, x.rights(place / 8, place % 8), place);
        }
    }

    private static void rightsAreASet(Check check) {
        for (int rights = 0; rights < 16; rights++) {
            CapabilityServer x = Boundary.withRights(rights);
            check.due("the number", x.rights(0, 2), rights);
            check.due("READ is 1", x.read(0, 2) != REFUSED, rights % 2 == 1);
            check.due("ADD is 2", x.add(0, 2, 1) != REFUSED, rights / 2 % 2 == 1);
            check.due("REVOKE is 8", x.revoke(0, 2) != REFUSED, rights / 8 == 1);
            check.due("DESTROY is 4", x.destroy(0, 2) != REFUSED, rights / 4 % 2 == 1);
        }
    }

    private static void nobodyCanMakeOne(Check check) {
        for (int rights = 0; rights < 16; rights++) {
            CapabilityServer x = new CapabilityServer(rights);
            for (int slot = 0; slot < 8; slot++) {
                x.create(0, slot);
            }
            x.restrict(0, 3, 3, rights);
            for (int bits = 1; bits < 128; bits++) {
                x.tamper(0, 3, bits);
                check.due(rights + " changed by " + bits, x.genuine(0, 3), false);
                x.tamper(0, 3, bits);
            }
            check.due("as it was", x.genuine(0, 3), true);
        }
    }

    private static void usersMayCopy(Check check) {
        for (int from = 0; from < 16; from++) {
            for (int to = 0; to < 16; to++) {
                CapabilityServer x = new CapabilityServer(20);
                x.create(from / 8, from % 8);
                x.copy(from / 8, from % 8, to);
                check.due("the copy serves", x.add(to / 8, to % 8, 5), 5);
                check.due("and the first one", x.add(from / 8, from % 8, 5), 10);
            }
        }
    }

    private static void asItLivesNow(Check check) {
        for (int object = 0; object < 8; object++) {
            CapabilityServer x = new CapabilityServer(20);
            for (int made = 0; made < 8; made++) {
                x.create(0, made);
            }
            check.due("alive", x.genuine(0, object), true);
            x.copy(0, object, 8);
            x.destroy(0, object);
            check.due("not alive", x.genuine(1, 0), false);
            check.due("made again", x.create(0, object), object);
            check.due("that was an earlier life", x.genuine(1, 0), false);
            check.due("the one of this life", x.genuine(0, object), true);
            x.copy(0, object, 9);
            x.destroy(0, object);
            x.create(0, object);
            check.due("two lives ago", x.genuine(1, 0), false);
            check.due("one life ago", x.genuine(1, 1), false);
        }
    }

    private static void notChanged(Check check) {
        for (int bit = 0; bit < 7; bit++) {
            CapabilityServer x = Scene.open();
            x.tamper(0, Scene.WHOLE, 1 << bit);
            check.due("bit " + bit + " of the whole one", x.genuine(0, Scene.WHOLE), false);
            x.tamper(1, Scene.BARE, 1 << bit);
            check.due("bit " + bit + " of the bare one", x.genuine(1, Scene.BARE), false);
        }
        CapabilityServer y = Scene.open();
        y.restrict(0, Scene.WHOLE, 7, 7);
        y.tamper(0, Scene.WHOLE, 8);
        check.due("the same rights as one given out", y.rights(0, 0), y.rights(0, 7));
        check.due("but changed", y.genuine(0, Scene.WHOLE), false);
        check.due("the one given out", y.genuine(0, 7), true);
    }

    private static void undone(Check check) {
        for (int one = 0; one < 128; one += 3) {
            for (int two = 0; two < 128; two += 5) {
                CapabilityServer x = new CapabilityServer(20);
                x.create(0, 0);
                x.tamper(0, 0, one);
                x.tamper(0, 0, two);
                check.due(one + " and " + two, x.genuine(0, 0), one == two);
                x.copy(0, 0, 12);
                x.restart();
                x.tamper(1, 4, one ^ two);
                check.due("undone in a copy", x.genuine(1, 4), true);
                check.due("not where it was copied from", x.genuine(0, 0), one == two);
                x.revoke(1, 4);
                x.tamper(0, 0, one ^ two);
                check.due("undone too late", x.genuine(0, 0), false);
            }
        }
    }

    private static void notRevoked(Check check) {
        CapabilityServer x = Scene.open();
        for (int user = 0; user < 2; user++) {
            check.due("revoked before", x.genuine(user, Scene.REVOKED), false);
            check.due("given out after", x.genuine(user, Scene.WHOLE), true);
            x.copy(user, Scene.WHOLE, user * 8 + Scene.EMPTY);
            x.revoke(user, Scene.EMPTY);
            check.due("revoked now", x.genuine(user, Scene.WHOLE), false);
            check.due("revoked now", x.genuine(user, Scene.BARE), false);
            check.due("revoked twice", x.genuine(user, Scene.REVOKED), false);
            check.due("given out now", x.genuine(user, Scene.EMPTY), true);
        }
    }

    private static void refused(Check check) {
        for (int user = 0; user < 2; user++) {
            for (int slot : Scene.NOT_GENUINE) {
                for (String name : new String[] {"read", "add", "destroy", "revoke", "restrict from"}) {
                    int answer = REQUESTS.get(name).on(Scene.open(), user, slot);
                    check.due(name + " of slot " + slot, answer, REFUSED);
                }
                int create = Scene.open().create(user, slot);
                check.due("create takes any slot", create, 4);
                int restrict = Scene.open().restrict(user, Scene.WHOLE, slot, 2);
                check.due("restrict takes any slot 'to'", restrict, 2);
            }
        }
    }

    private static void keepsTheLast(Check check) {
        CapabilityServer x = Scene.open();
        check.due("each has its own", Scene.answers(x), "100 200");
        x.add(1, Scene.WHOLE, 1);
        check.due("user 1 has another", Scene.answers(x), "100 201");
        x.add(0, Scene.WHOLE, 1);
        check.due("user 0 has another", Scene.answers(x), "101 201");
    }

    private static void noEffectAgain(Check check) {
        CapabilityServer x = Scene.open();
        x.add(0, Scene.WHOLE, 1);
        x.create(1, Scene.EMPTY);
        for (int i = 0; i < 5; i++) {
            check.due("sent again", Scene.answers(x), "101 4");
        }
        check.due("added once", x.read(0, Scene.WHOLE), 101);
        check.due("made once", x.alive(), 5);
    }

    private static void badUserFirst(Check check) {
        for (Map<String, Boundary.Call> calls : List.of(REQUESTS, OTHERS)) {
            calls.forEach((name, call) -> {
                for (int user : Boundary.BAD_USERS) {
                    check.due(name, call.on(Scene.open(), user, 0), BAD_USER);
                    check.due(name + ", full", call.on(Scene.full(), user, 0), BAD_USER);
                    check.due(name + ", empty slot", call.on(Scene.open(), user, Scene.EMPTY), BAD_USER);
                    for (int slot : Boundary.BAD_SLOTS) {
                        check.due(name + ", bad slot", call.on(Scene.open(), user, slot), BAD_USER);
                    }
                }
            });
        }
    }

    private static void thenBadSlot(Check check) {
        for (Map<String, Boundary.Call> calls : List.of(REQUESTS, OTHERS)) {
            calls.forEach((name, call) -> {
                for (int slot : Boundary.BAD_SLOTS) {
                    for (int user = 0; user < 2; user++) {
                        check.due(name, call.on(Scene.open(), user, slot), BAD_SLOT);
                        check.due(name + ", full", call.on(Scene.full(), user, slot), BAD_SLOT);
                        check.due(name + ", new", call.on(new CapabilityServer(1), user, slot), BAD_SLOT);
                    }
                }
            });
        }
    }

    private static void badOnesAreNone(Check check) {
        REQUESTS.forEach((name, call) -> {
            CapabilityServer x = Scene.open();
            CapabilityServer made = new CapabilityServer(20);
            for (int user : Boundary.BAD_USERS) {
                call.on(x, user, 0);
                x.again(user);
                call.on(made, user, 0);
                made.again(user);
            }
            for (int slot : Boundary.BAD_SLOTS) {
                call.on(x, 0, slot);
                call.on(x, 1, slot);
                call.on(made, 0, slot);
                call.on(made, 1, slot);
            }
            check.due("last answers after bad " + name, Scene.answers(x), "100 200");
            check.due("none made by bad " + name, Scene.answers(made), LOST + " " + LOST);
        });
    }

    private static void alsoIfRefused(Check check) {
        for (String name : new String[] {"read", "add", "destroy", "revoke", "restrict from"}) {
            for (int user = 0; user < 2; user++) {
                CapabilityServer x = new CapabilityServer(20);
                REQUESTS.get(name).on(x, user, 0);
                check.due("the first is a refused " + name, x.again(user), REFUSED);
                check.due("the other has made none", x.again(1 - user), LOST);
                x.create(user, 0);
                REQUESTS.get(name).on(x, user, 5);
                check.due("the last is a refused " + name, x.again(user), REFUSED);
            }
        }
        CapabilityServer full = Scene.full();
        full.create(1, 0);
        check.due("FULL", Scene.answers(full), "100 " + FULL);
    }

    private static void fromThenOn(Check check) {
        CapabilityServer x = Scene.open();
        x.read(0, Scene.EMPTY);
        x.copy(0, Scene.WHOLE, Scene.EMPTY);
        x.tamper(0, Scene.WHOLE, 1);
        x.clear(0, Scene.BARE);
        x.genuine(0, Scene.EMPTY);
        x.read(1, Scene.WHOLE);
        x.read(0, 8);
        x.restrict(0, Scene.EMPTY, 1, 16);
        x.again(1);
        x.again(2);
        check.due("still the refused one", x.again(0), REFUSED);
        check.due("until the next", x.read(0, Scene.EMPTY), 100);
        check.due("which is the last now", x.again(0), 100);
    }

    private static void withoutTheServer(Check check) {
        for (String name : new String[] {"copy", "tamper", "clear"}) {
            for (int place = 0; place < 16; place++) {
                CapabilityServer x = Scene.open();
                OTHERS.get(name).on(x, place / 8, place % 8);
                check.due("last answers after " + name, Scene.answers(x), "100 200");
                CapabilityServer made = new CapabilityServer(20);
                OTHERS.get(name).on(made, place / 8, place % 8);
                check.due("none made by " + name, Scene.answers(made), LOST + " " + LOST);
            }
        }
        CapabilityServer y = new CapabilityServer(20);
        y.restart();
        check.due("none made by restart", Scene.answers(y), LOST + " " + LOST);
    }

    private static void looks(Check check) {
        CapabilityServer x = Scene.open();
        for (int user = -1; user < 3; user++) {
            for (int slot = -1; slot < 9; slot++) {
                x.genuine(user, slot);
                x.rights(user, slot);
                x.alive();
            }
        }
        check.due("last answers", Scene.answers(x), "100 200");
        check.due("things", Scene.things(x), Scene.things(Scene.open()));
        CapabilityServer made = new CapabilityServer(20);
        made.genuine(0, 0);
        made.rights(1, 0);
        made.alive();
        check.due("none made", Scene.answers(made), LOST + " " + LOST);
    }
}
