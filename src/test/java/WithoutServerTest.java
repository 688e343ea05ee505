/** Promises 9 to 12: what is done without the server. */
public final class WithoutServerTest {
    private static final int BAD_USER = CapabilityServer.BAD_USER;
    private static final int BAD_SLOT = CapabilityServer.BAD_SLOT;
    private static final int REFUSED = CapabilityServer.REFUSED;
    private static final int LOST = CapabilityServer.LOST;

    private static final Check check = new Check();
    private static final int[] BAD_USERS = {-1, 2, 3, 8, Integer.MIN_VALUE, Integer.MAX_VALUE};
    private static final int[] BAD_SLOTS = {-1, 8, 9, 15, 16, Integer.MIN_VALUE, Integer.MAX_VALUE};

    public static void main(String[] args) {
        copyToEachPlace();
        copyOfWhatIsNotGenuine();
        tamper();
        tamperTakesSevenBitsAlone();
        tamperOfTheObject();
        clear();
        restart();
        badUsersAndSlots();
        noneIsARequest();
        check.finish();
    }

    private static void copyToEachPlace() {
        int[] far = {0, 16, 32, -16, 1024, Integer.MIN_VALUE, Integer.MAX_VALUE - 15};
        for (int base : far) {
            for (int to = 0; to < 16; to++) {
                for (int user = 0; user < 2; user++) {
                    CapabilityServer x = new CapabilityServer(9);
                    x.create(user, 2);
                    x.add(user, 2, 11);
                    check.due("copy to " + (base + to), x.copy(user, 2, base + to), 0);
                    check.due("the copy", x.read(to >> 3, to & 7), 11);
                    check.due("the one copied", x.read(user, 2), 11);
                    int full = 0;
                    for (int place = 0; place < 16; place++) {
                        full += x.genuine(place >> 3, place & 7) ? 1 : 0;
                    }
                    check.due("slots that hold one", full, to == user * 8 + 2 ? 1 : 2);
                }
            }
        }
    }

    private static void copyOfWhatIsNotGenuine() {
        CapabilityServer x = new CapabilityServer(9);
        x.create(0, 0);
        x.copy(0, 0, 1);
        x.tamper(0, 1, 3);
        check.due("copy of a changed one", x.copy(0, 1, 10), 0);
        check.due("rights", x.rights(1, 2), 12);
        check.due("genuine", x.genuine(1, 2), false);
        check.due("undo in the copy", x.tamper(1, 2, 3), 0);
        check.due("genuine", x.genuine(1, 2), true);
        check.due("the one copied stays changed", x.genuine(0, 1), false);
        check.due("copy of an empty slot", x.copy(0, 6, 10), 0);
        check.due("empties the other", x.rights(1, 2), 0);
        check.due("empties the other", x.clear(1, 2), 0);
        check.due("to itself", x.copy(0, 0, 0), 0);
        check.due("to itself", x.genuine(0, 0), true);
        x.copy(0, 0, 15);
        x.clear(0, 0);
        check.due("a copy stands alone", x.genuine(1, 7), true);
        x.destroy(1, 7);
        check.due("copy of a dead one", x.copy(1, 7, 5), 0);
        check.due("rights", x.rights(0, 5), 15);
        x.create(0, 0);
        check.due("stays dead", x.genuine(0, 5), false);
    }

    private static void tamper() {
        CapabilityServer x = new CapabilityServer(9);
        x.create(1, 5);
        check.due("tamper 0", x.tamper(1, 5, 0), 0);
        check.due("changes nothing", x.genuine(1, 5), true);
        for (int bits = 1; bits < 128; bits++) {
            check.due("tamper", x.tamper(1, 5, bits), 0);
            check.due("rights", x.rights(1, 5), 15 ^ bits & 15);
            x.tamper(1, 5, bits);
        }
        check.due("all undone", x.genuine(1, 5), true);
        check.due("empty", x.tamper(1, 4, 1), REFUSED);
        check.due("empty, no bits", x.tamper(1, 4, 0), REFUSED);
        check.due("stays empty", x.clear(1, 4), 0);
        x.restrict(1, 5, 6, 0);
        check.due("no rights isn't empty", x.tamper(1, 6, 1), 0);
        check.due("rights", x.rights(1, 6), 1);
        check.due("not genuine", x.read(1, 6), REFUSED);
        x.tamper(1, 5, 15);
        check.due("rights all gone", x.rights(1, 5), 0);
        check.due("still no empty slot", x.tamper(1, 5, 15), 0);
        check.due("genuine", x.genuine(1, 5), true);
    }

    private static void tamperTakesSevenBitsAlone() {
        CapabilityServer x = new CapabilityServer(9);
        x.create(0, 0);
        int[] outside = {128, 256, -128, 1 << 30, Integer.MIN_VALUE, Integer.MAX_VALUE - 127};
        for (int bits : outside) {
            check.due("tamper " + bits, x.tamper(0, 0, bits), 0);
            check.due("genuine after " + bits, x.genuine(0, 0), true);
            check.due("rights after " + bits, x.rights(0, 0), 15);
        }
        x.tamper(0, 0, -1);
        check.due("tamper -1", x.rights(0, 0), 0);
        check.due("tamper -1", x.genuine(0, 0), false);
        x.tamper(0, 0, 127);
        check.due("tamper -1 and 127 undo each other", x.genuine(0, 0), true);
        check.due("holds something still", x.clear(0, 0), 1);
    }

    private static void tamperOfTheObject() {
        CapabilityServer x = new CapabilityServer(9);
        x.create(0, 0);
        x.create(0, 1);
        x.add(0, 1, 8);
        x.tamper(0, 0, 16);
        check.due("rights", x.rights(0, 0), 15);
        check.due("doesn't reach the other object", x.read(0, 0), REFUSED);
        check.due("nor ends it", x.destroy(0, 0), REFUSED);
        x.tamper(0, 0, 64);
        x.tamper(0, 0, 16);
        check.due("not yet undone", x.genuine(0, 0), false);
        x.tamper(0, 0, 64);
        check.due("undone", x.genuine(0, 0), true);
        x.tamper(0, 0, 16);
        x.destroy(0, 1);
        check.due("the other is made again", x.create(0, 2), 1);
        check.due("still not genuine", x.genuine(0, 0), false);
        x.tamper(0, 0, 16);
        check.due("its own object lives", x.read(0, 0), 0);
        check.due("what wasn't changed", x.read(0, 2), 0);
    }

    private static void clear() {
        CapabilityServer x = new CapabilityServer(9);
        for (int user = 0; user < 2; user++) {
            for (int slot = 0; slot < 8; slot++) {
                check.due("clear an empty one", x.clear(user, slot), 0);
            }
        }
        x.create(0, 0);
        x.add(0, 0, 4);
        x.copy(0, 0, 8);
        x.restrict(0, 0, 1, 0);
        check.due("clear", x.clear(0, 0), 1);
        check.due("clear twice", x.clear(0, 0), 0);
        check.due("rights", x.rights(0, 0), 0);
        check.due("genuine", x.genuine(0, 0), false);
        check.due("read", x.read(0, 0), REFUSED);
        check.due("tamper", x.tamper(0, 0, 1), REFUSED);
        check.due("one without rights", x.clear(0, 1), 1);
        check.due("the object lives on", x.alive(), 1);
        check.due("the copy stays", x.read(1, 0), 4);
        x.tamper(1, 0, 127);
        check.due("clear a changed one", x.clear(1, 0), 1);
        check.due("nobody reaches it, it lives on", x.alive(), 1);
        check.due("and is not given again", x.create(0, 0), 1);
    }

    private static void restart() {
        CapabilityServer x = new CapabilityServer(9);
        x.create(0, 0);
        x.create(1, 1);
        x.add(0, 0, 21);
        x.copy(0, 0, 8);
        x.copy(0, 0, 2);
        x.tamper(0, 2, 5);
        x.restart();
        check.due("answers are lost", x.again(0), LOST);
        check.due("answers are lost", x.again(1), LOST);
        check.due("objects stay", x.alive(), 2);
        check.due("secrets stay", x.genuine(0, 0), true);
        check.due("secrets stay", x.genuine(1, 0), true);
        check.due("secrets stay", x.genuine(1, 1), true);
        check.due("slots stay", x.rights(0, 2), 10);
        check.due("values stay", x.read(0, 0), 21);
        check.due("new answers are kept", x.again(0), 21);
        check.due("the other's is lost still", x.again(1), LOST);
        x.revoke(1, 0);
        x.restart();
        check.due("revoked stays revoked", x.genuine(0, 0), false);
        x.destroy(1, 0);
        x.restart();
        x.restart();
        check.due("dead stays dead", x.alive(), 1);
        check.due("made again", x.create(0, 7), 0);
        check.due("an old one stays lost", x.genuine(0, 0), false);
        check.due("an old one stays lost", x.genuine(1, 0), false);
    }

    private static void badUsersAndSlots() {
        CapabilityServer x = new CapabilityServer(9);
        x.create(0, 0);
        x.create(1, 7);
        for (int user : BAD_USERS) {
            for (int slot : new int[] {0, 7, 8, -1}) {
                check.due("copy", x.copy(user, slot, 1), BAD_USER);
                check.due("tamper", x.tamper(user, slot, 1), BAD_USER);
                check.due("clear", x.clear(user, slot), BAD_USER);
            }
        }
        for (int user = 0; user < 2; user++) {
            for (int slot : BAD_SLOTS) {
                check.due("copy", x.copy(user, slot, 0), BAD_SLOT);
                check.due("tamper", x.tamper(user, slot, 1), BAD_SLOT);
                check.due("clear", x.clear(user, slot), BAD_SLOT);
            }
        }
        check.due("nothing changed", x.genuine(0, 0), true);
        check.due("nothing changed", x.genuine(1, 7), true);
    }

    private static void noneIsARequest() {
        CapabilityServer x = new CapabilityServer(9);
        x.create(0, 0);
        x.add(0, 0, 55);
        x.copy(0, 0, 8);
        check.due("after copy", x.again(0), 55);
        x.tamper(0, 0, 1);
        check.due("after tamper", x.again(0), 55);
        x.tamper(0, 5, 1);
        check.due("after a refused tamper", x.again(0), 55);
        x.clear(0, 0);
        check.due("after clear", x.again(0), 55);
        x.clear(1, 0);
        x.copy(1, 0, 8);
        x.tamper(1, 0, 1);
        check.due("the other user has made none", x.again(1), LOST);
    }
}
