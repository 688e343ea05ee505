import java.util.function.Supplier;

/** What the boundary cases of several calls have in common. */
final class Boundary {
    /** A call with a user and a slot; what else it takes is fixed. */
    interface Call {
        int on(CapabilityServer x, int user, int slot);
    }

    private static final int BAD_USER = CapabilityServer.BAD_USER;
    private static final int BAD_SLOT = CapabilityServer.BAD_SLOT;
    private static final int REFUSED = CapabilityServer.REFUSED;

    // 256, 65536 and their neighbours become good ones if only their low bits are looked at.
    static final int[] BAD_USERS =
        {-1, -2, 2, 3, 8, 256, 257, 65536, Integer.MIN_VALUE, Integer.MIN_VALUE + 1, Integer.MAX_VALUE};
    static final int[] BAD_SLOTS =
        {-1, -7, -8, 8, 9, 15, 16, 256, 263, 65536, Integer.MIN_VALUE, Integer.MIN_VALUE + 7, Integer.MAX_VALUE};

    private Boundary() {
    }

    /** The call answers what is due, and neither a thing nor a last answer is another one than without it. */
    static void idle(Check check, String what, Supplier<CapabilityServer> start, Call call, int[] at, int due) {
        CapabilityServer x = start.get();
        CapabilityServer without = start.get();
        String where = what + " by user " + at[0] + " at slot " + at[1];
        check.due(where, call.on(x, at[0], at[1]), due);
        check.due(where + ": last answers", Scene.answers(x), Scene.answers(without));
        check.due(where + ": things", Scene.things(x), Scene.things(without));
    }

    /** The same for a request: it changes nothing but what its user's last answer is. */
    static void idleRequest(Check check, String what, Supplier<CapabilityServer> start, Call call, int[] at, int due) {
        CapabilityServer x = start.get();
        CapabilityServer without = start.get();
        int other = 1 - at[0];
        String where = what + " by user " + at[0] + " at slot " + at[1];
        check.due(where, call.on(x, at[0], at[1]), due);
        check.due(where + ": the user's last answer", x.again(at[0]), due);
        check.due(where + ": the other's last answer", x.again(other), without.again(other));
        check.due(where + ": things", Scene.things(x), Scene.things(without));
    }

    static void badUser(Check check, Call call) {
        for (int user : BAD_USERS) {
            for (int slot : new int[] {Scene.WHOLE, Scene.OTHER_RIGHTS, Scene.EMPTY}) {
                idle(check, "a bad user's call", Scene::open, call, new int[] {user, slot}, BAD_USER);
            }
        }
    }

    static void badUserComesFirst(Check check, Call call) {
        for (int user : BAD_USERS) {
            for (int slot : BAD_SLOTS) {
                idle(check, "a bad user's call", Scene::open, call, new int[] {user, slot}, BAD_USER);
            }
        }
    }

    static void badSlot(Check check, Call call) {
        for (int user = 0; user < 2; user++) {
            for (int slot : BAD_SLOTS) {
                idle(check, "a call", Scene::open, call, new int[] {user, slot}, BAD_SLOT);
            }
        }
    }

    static void everyGoodSlot(Check check, Call call) {
        for (int user = 0; user < 2; user++) {
            for (int slot = 0; slot < 8; slot++) {
                int answer = call.on(Scene.open(), user, slot);
                boolean isBad = answer == BAD_USER || answer == BAD_SLOT;
                check.due("user " + user + ", slot " + slot + " is bad", isBad, false);
            }
        }
    }

    static void refusesWhatIsNotGenuine(Check check, Call call) {
        for (int user = 0; user < 2; user++) {
            for (int slot : Scene.NOT_GENUINE) {
                idleRequest(check, "a call", Scene::open, call, new int[] {user, slot}, REFUSED);
            }
        }
    }

    /** A server where slot 2 of each user has those rights to an object with the value 30 or 31. */
    static CapabilityServer withRights(int rights) {
        CapabilityServer x = new CapabilityServer(-3);
        for (int user = 0; user < 2; user++) {
            x.create(user, 0);
            x.add(user, 0, 30 + user);
            x.restrict(user, 0, 2, rights);
            x.copy(user, 0, user * 8 + 1);
        }
        return x;
    }

    static void refusesWithout(Check check, int right, Call call) {
        for (int rights = 0; rights < 16; rights++) {
            int has = rights;
            for (int user = 0; user < 2 && (rights & right) == 0; user++) {
                int[] at = {user, 2};
                idleRequest(check, "with rights " + rights, () -> withRights(has), call, at, REFUSED);
            }
        }
    }

    static void enoughIs(Check check, int right, Call call, int[] due) {
        for (int rights = 0; rights < 16; rights++) {
            for (int user = 0; user < 2 && (rights & right) != 0; user++) {
                CapabilityServer x = withRights(rights);
                check.due("user " + user + " with rights " + rights, call.on(x, user, 2), due[user]);
                check.due("user " + user + " with rights " + rights + ", again", x.again(user), due[user]);
            }
        }
    }
}
