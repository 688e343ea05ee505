/**
 * A server in which each user has one slot of every kind, so that a test can begin at any boundary.
 * User 0's own object is 0, with the value 100; user 1's is 1, with the value 200. These values are
 * also the users' last answers. Objects 0 to 3 are alive.
 */
final class Scene {
    /** Genuine, with all rights to the user's own object. */
    static final int WHOLE = 0;
    /** Genuine, with no right to the user's own object. */
    static final int BARE = 1;
    /** The whole one with its rights changed. */
    static final int OTHER_RIGHTS = 2;
    /** The whole one changed so that it names the other user's object. */
    static final int OTHER_OBJECT = 3;
    static final int REVOKED = 4;
    /** Its object isn't alive. */
    static final int DEAD = 5;
    /** Its object was destroyed and made again. */
    static final int MADE_AGAIN = 6;
    static final int EMPTY = 7;

    static final int[] NOT_GENUINE = {OTHER_RIGHTS, OTHER_OBJECT, REVOKED, DEAD, MADE_AGAIN, EMPTY};

    private static final int RIGHTS_CHANGE = 5;
    private static final int OBJECT_CHANGE = 16;

    private Scene() {
    }

    static int own(int user) {
        return user == 0 ? 100 : 200;
    }

    static CapabilityServer open() {
        CapabilityServer x = new CapabilityServer(77);
        for (int slot : new int[] {WHOLE, MADE_AGAIN, DEAD}) {
            x.create(0, slot);
            x.create(1, slot);
        }
        for (int user = 0; user < 2; user++) {
            x.destroy(user, MADE_AGAIN);
            x.create(user, EMPTY);
            x.clear(user, EMPTY);
        }
        for (int user = 0; user < 2; user++) {
            x.destroy(user, DEAD);
            x.copy(user, WHOLE, user * 8 + REVOKED);
            x.revoke(user, WHOLE);
            x.restrict(user, WHOLE, BARE, 0);
            x.copy(user, WHOLE, user * 8 + OTHER_RIGHTS);
            x.tamper(user, OTHER_RIGHTS, RIGHTS_CHANGE);
            x.copy(user, WHOLE, user * 8 + OTHER_OBJECT);
            x.tamper(user, OTHER_OBJECT, OBJECT_CHANGE);
            x.add(user, WHOLE, own(user));
        }
        return x;
    }

    /** The same with all eight objects alive; nobody reaches the four more. */
    static CapabilityServer full() {
        CapabilityServer x = open();
        for (int more = 0; more < 4; more++) {
            x.create(0, EMPTY);
        }
        x.clear(0, EMPTY);
        x.add(0, WHOLE, 0);
        return x;
    }

    /** The last answers, which this doesn't change. */
    static String answers(CapabilityServer x) {
        return x.again(0) + " " + x.again(1);
    }

    /**
     * What can be found out about slots, objects and values. It uses x up. It looks at a slot only after
     * other calls have told of it, so that a look that wrongly changes something can't hide that.
     */
    static String things(CapabilityServer x) {
        StringBuilder told = new StringBuilder("held, genuine, value, rights:");
        for (int place = 0; place < 16; place++) {
            int user = place >> 3;
            int slot = place & 7;
            told.append(' ').append(x.tamper(user, slot, 0)).append(' ').append(x.restrict(user, slot, slot, 15));
            told.append(' ').append(x.read(user, slot)).append(' ').append(x.rights(user, slot)).append(';');
        }
        for (int user = 0; user < 2; user++) {
            told.append(" undone ").append(x.tamper(user, OTHER_RIGHTS, RIGHTS_CHANGE));
            told.append(' ').append(x.read(user, OTHER_RIGHTS));
            told.append(' ').append(x.tamper(user, OTHER_OBJECT, OBJECT_CHANGE));
            told.append(' ').append(x.read(user, OTHER_OBJECT)).append(';');
        }
        told.append(" cleared");
        for (int place = 0; place < 16; place++) {
            told.append(' ').append(x.clear(place >> 3, place & 7));
        }
        told.append("; free");
        for (int object = 0; object < 9; object++) {
            told.append(' ').append(x.create(0, 0));
        }
        return told.toString();
    }
}
