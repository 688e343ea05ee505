/**
 * A server of counters reached by capabilities.
 *
 * A capability is one number: the rights in bits 0 to 3 and the object in bits 4 to 6, a bit that is
 * always set in bit 7, the seal in bits 8 to 14, and the object's secret in bits 32 to 63. Users can
 * turn round bits 0 to 6 alone. The seal repeats those seven bits as the server gave them out: unlike
 * a hash it can't miss a change, and it fits again when the changes undo each other.
 */
public final class CapabilityServer {
    public static final int BAD_USER = -1;
    public static final int BAD_SLOT = -2;
    public static final int REFUSED = -3;
    public static final int FULL = -4;
    public static final int BAD_RIGHTS = -5;
    public static final int LOST = -6;
    public static final int READ = 1;
    public static final int ADD = 2;
    public static final int DESTROY = 4;
    public static final int REVOKE = 8;

    private static final int OBJECTS = 8;
    private static final int USERS = 2;
    private static final int SLOTS = 8;
    private static final int PLACES = USERS * SLOTS;
    private static final int ALL_RIGHTS = READ | ADD | DESTROY | REVOKE;

    private static final int NO_FAULT = 0;

    private static final int OBJECT_SHIFT = 4;
    private static final int OBJECT_MASK = OBJECTS - 1;
    private static final int OPEN_MASK = 127;
    /** Keeps a capability from ever being EMPTY, whatever users do to its open bits. */
    private static final long GIVEN_OUT = 128L;
    private static final int SEAL_SHIFT = 8;
    private static final int SECRET_SHIFT = 32;
    private static final long EMPTY = 0L;

    /** Odd, so that a secret comes back only after all 2^32 others, from whatever seed. */
    private static final int SECRET_STEP = 0x9E3779B9;

    private final boolean[] living = new boolean[OBJECTS];
    private final int[] value = new int[OBJECTS];
    private final int[] secret = new int[OBJECTS];
    private int lastSecret;

    /** The slots of user 0, then those of user 1. */
    private final long[] held = new long[PLACES];

    private final boolean[] answerKept = new boolean[USERS];
    private final int[] keptAnswer = new int[USERS];

    public CapabilityServer(int seed) {
        lastSecret = seed;
    }

    // Requests to the server.

    public int create(int user, int slot) {
        int fault = addressFault(user, slot);
        if (fault != NO_FAULT) {
            return fault;
        }
        int object = smallestFreeObject();
        if (object == OBJECTS) {
            return keep(user, FULL);
        }
        living[object] = true;
        value[object] = 0;
        renewSecret(object);
        held[placeOf(user, slot)] = newCapability(object, ALL_RIGHTS);
        return keep(user, object);
    }

    public int read(int user, int slot) {
        int fault = addressFault(user, slot);
        if (fault != NO_FAULT) {
            return fault;
        }
        long capability = held[placeOf(user, slot)];
        if (!permits(capability, READ)) {
            return keep(user, REFUSED);
        }
        int object = objectIn(capability);
        return keep(user, value[object]);
    }

    public int add(int user, int slot, int more) {
        int fault = addressFault(user, slot);
        if (fault != NO_FAULT) {
            return fault;
        }
        long capability = held[placeOf(user, slot)];
        if (!permits(capability, ADD)) {
            return keep(user, REFUSED);
        }
        int object = objectIn(capability);
        value[object] += more;
        return keep(user, value[object]);
    }

    public int destroy(int user, int slot) {
        int fault = addressFault(user, slot);
        if (fault != NO_FAULT) {
            return fault;
        }
        long capability = held[placeOf(user, slot)];
        if (!permits(capability, DESTROY)) {
            return keep(user, REFUSED);
        }
        living[objectIn(capability)] = false;
        return keep(user, 0);
    }

    public int revoke(int user, int slot) {
        int fault = addressFault(user, slot);
        if (fault != NO_FAULT) {
            return fault;
        }
        int place = placeOf(user, slot);
        long capability = held[place];
        if (!permits(capability, REVOKE)) {
            return keep(user, REFUSED);
        }
        int object = objectIn(capability);
        int kept = rightsIn(capability);
        renewSecret(object);
        held[place] = newCapability(object, kept);
        return keep(user, 0);
    }

    public int restrict(int user, int from, int to, int rights) {
        int fault = addressFault(user, from);
        if (fault != NO_FAULT) {
            return fault;
        }
        if (!isSlot(to)) {
            return BAD_SLOT;
        }
        if (rights < 0 || rights > ALL_RIGHTS) {
            return BAD_RIGHTS;
        }
        long capability = held[placeOf(user, from)];
        if (!isGenuine(capability)) {
            return keep(user, REFUSED);
        }
        int object = objectIn(capability);
        int left = rightsIn(capability) & rights;
        held[placeOf(user, to)] = newCapability(object, left);
        return keep(user, left);
    }

    public int again(int user) {
        if (!isUser(user)) {
            return BAD_USER;
        }
        // Keeping LOST as the answer to this request would change nothing: the next one is LOST too.
        return answerKept[user] ? keptAnswer[user] : LOST;
    }

    // Without the server.

    public int copy(int user, int from, int to) {
        int fault = addressFault(user, from);
        if (fault != NO_FAULT) {
            return fault;
        }
        int toUser = to >> 3 & 1;
        int toSlot = to & 7;
        held[placeOf(toUser, toSlot)] = held[placeOf(user, from)];
        return 0;
    }

    public int tamper(int user, int slot, int bits) {
        int fault = addressFault(user, slot);
        if (fault != NO_FAULT) {
            return fault;
        }
        int place = placeOf(user, slot);
        if (held[place] == EMPTY) {
            return REFUSED;
        }
        // Rights and object lie in a capability as they lie in 'bits'.
        held[place] ^= bits & OPEN_MASK;
        return 0;
    }

    public int clear(int user, int slot) {
        int fault = addressFault(user, slot);
        if (fault != NO_FAULT) {
            return fault;
        }
        int place = placeOf(user, slot);
        int heldSomething = held[place] == EMPTY ? 0 : 1;
        held[place] = EMPTY;
        return heldSomething;
    }

    public void restart() {
        for (int user = 0; user < USERS; user++) {
            answerKept[user] = false;
        }
    }

    // The calls below change nothing and are no requests.

    public boolean genuine(int user, int slot) {
        int fault = addressFault(user, slot);
        if (fault != NO_FAULT) {
            return false;
        }
        long capability = held[placeOf(user, slot)];
        return isGenuine(capability);
    }

    public int rights(int user, int slot) {
        int fault = addressFault(user, slot);
        if (fault != NO_FAULT) {
            return fault;
        }
        long capability = held[placeOf(user, slot)];
        return rightsIn(capability);
    }

    public int alive() {
        int count = 0;
        for (int object = 0; object < OBJECTS; object++) {
            if (living[object]) {
                count++;
            }
        }
        return count;
    }

    private static boolean isUser(int user) {
        return user >= 0 && user < USERS;
    }

    private static boolean isSlot(int slot) {
        return slot >= 0 && slot < SLOTS;
    }

    private static int addressFault(int user, int slot) {
        if (!isUser(user)) {
            return BAD_USER;
        }
        return isSlot(slot) ? NO_FAULT : BAD_SLOT;
    }

    private static int placeOf(int user, int slot) {
        return user * SLOTS + slot;
    }

    private static int rightsIn(long capability) {
        return (int) capability & ALL_RIGHTS;
    }

    private static int objectIn(long capability) {
        return (int) capability >> OBJECT_SHIFT & OBJECT_MASK;
    }

    private int smallestFreeObject() {
        int object = 0;
        while (object < OBJECTS && living[object]) {
            object++;
        }
        return object;
    }

    private void renewSecret(int object) {
        lastSecret += SECRET_STEP;
        secret[object] = lastSecret;
    }

    private long newCapability(int object, int rights) {
        long open = object << OBJECT_SHIFT | rights;
        long secretPart = (long) secret[object] << SECRET_SHIFT;
        return secretPart | open << SEAL_SHIFT | GIVEN_OUT | open;
    }

    private boolean isGenuine(long capability) {
        int object = objectIn(capability);
        return capability != EMPTY
            && sealFits(capability)
            && living[object]
            && (int) (capability >> SECRET_SHIFT) == secret[object];
    }

    private static boolean sealFits(long capability) {
        long seal = capability >> SEAL_SHIFT & OPEN_MASK;
        long open = capability & OPEN_MASK;
        return seal == open;
    }

    private boolean permits(long capability, int right) {
        return isGenuine(capability) && (rightsIn(capability) & right) != 0;
    }

    private int keep(int user, int answer) {
        answerKept[user] = true;
        keptAnswer[user] = answer;
        return answer;
    }
}
