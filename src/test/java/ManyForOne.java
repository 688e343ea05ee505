/**
 * Object 1, with the value 19, is held in six slots of both users: whole, copied, without rights, and with
 * one right alone. Object 0 is held in slot 7 of user 0.
 */
final class ManyForOne {
    /** The slots that hold object 1, as 'to' of copy tells a slot. */
    static final int[] HOLDERS = {0, 1, 2, 3, 8, 11};
    /** Those of them that have the right. */
    static final int[] ABLE = {0, 1, 3, 8, 11};

    private ManyForOne() {
    }

    static CapabilityServer open(int right) {
        CapabilityServer x = new CapabilityServer(6);
        x.create(0, 7);
        x.create(0, 0);
        x.add(0, 0, 19);
        x.copy(0, 0, 1);
        x.copy(0, 0, 8);
        x.restrict(0, 0, 2, 0);
        x.restrict(0, 0, 3, right);
        x.restrict(1, 0, 3, 15);
        return x;
    }

    /** What is genuine no more is held on to, with the rights that it had. */
    static void slotsKeepThem(Check check, int right, Boundary.Call call) {
        CapabilityServer x = open(right);
        call.on(x, 0, 1);
        int[] rights = {15, 15, 0, right, 15, 15};
        for (int i = 0; i < HOLDERS.length; i++) {
            int user = HOLDERS[i] >> 3;
            int slot = HOLDERS[i] & 7;
            check.due("rights", x.rights(user, slot), rights[i]);
            check.due("tamper", x.tamper(user, slot, 0), 0);
            check.due("clear", x.clear(user, slot), 1);
        }
    }

    /** A change that is undone only after the call saves none for the call's object, and harms no other. */
    static CapabilityServer changedMeanwhile(Check check, Boundary.Call call) {
        CapabilityServer x = new CapabilityServer(6);
        x.create(0, 0);
        x.create(0, 1);
        x.copy(0, 0, 2);
        x.tamper(0, 2, 16);
        x.copy(0, 1, 3);
        x.tamper(0, 3, 16);
        call.on(x, 0, 0);
        x.tamper(0, 2, 16);
        x.tamper(0, 3, 16);
        check.due("one for it, undone", x.genuine(0, 2), false);
        check.due("one that only named it, undone", x.genuine(0, 3), true);
        return x;
    }
}
