import java.util.ArrayList;
import java.util.List;

/**
 * The document's words a second time, held in another way than the program holds them: a slot keeps
 * the very gift that the server made and the changes since, and the server goes through its gifts.
 */
final class Model {
    private static final class Gift {
        final int object;
        final int rights;
        boolean good = true;

        Gift(int object, int rights) {
            this.object = object;
            this.rights = rights;
        }
    }

    private record Held(Gift gift, int changes) {
        int rights() {
            return gift.rights ^ changes & 15;
        }

        boolean genuine() {
            return changes == 0 && gift.good;
        }
    }

    private final Integer[] values = new Integer[8];
    private final Held[][] slots = new Held[2][8];
    private final Integer[] answers = new Integer[2];
    private final List<Gift> gifts = new ArrayList<>();

    private static int fault(int user, int slot) {
        return user != 0 && user != 1 ? -1 : slot < 0 || slot > 7 ? -2 : 0;
    }

    private Held give(int object, int rights) {
        Gift gift = new Gift(object, rights);
        gifts.add(gift);
        return new Held(gift, 0);
    }

    private void spoil(int object) {
        for (Gift gift : gifts) {
            if (gift.object == object) {
                gift.good = false;
            }
        }
    }

    private int answer(int user, int answer) {
        answers[user] = answer;
        return answer;
    }

    private boolean may(int user, int slot, int right) {
        return genuine(user, slot) && (slots[user][slot].rights() & right) == right;
    }

    int create(int user, int slot) {
        if (fault(user, slot) != 0) {
            return fault(user, slot);
        }
        for (int object = 0; object < 8; object++) {
            if (values[object] == null) {
                values[object] = 0;
                slots[user][slot] = give(object, 15);
                return answer(user, object);
            }
        }
        return answer(user, -4);
    }

    int read(int user, int slot) {
        if (fault(user, slot) != 0) {
            return fault(user, slot);
        }
        return answer(user, may(user, slot, 1) ? values[slots[user][slot].gift.object] : -3);
    }

    int add(int user, int slot, int more) {
        if (fault(user, slot) != 0) {
            return fault(user, slot);
        }
        if (!may(user, slot, 2)) {
            return answer(user, -3);
        }
        int object = slots[user][slot].gift.object;
        values[object] = (int) ((long) values[object] + more);
        return answer(user, values[object]);
    }

    int destroy(int user, int slot) {
        if (fault(user, slot) != 0) {
            return fault(user, slot);
        }
        if (!may(user, slot, 4)) {
            return answer(user, -3);
        }
        int object = slots[user][slot].gift.object;
        values[object] = null;
        spoil(object);
        return answer(user, 0);
    }

    int revoke(int user, int slot) {
        if (fault(user, slot) != 0) {
            return fault(user, slot);
        }
        if (!may(user, slot, 8)) {
            return answer(user, -3);
        }
        Gift old = slots[user][slot].gift;
        spoil(old.object);
        slots[user][slot] = give(old.object, old.rights);
        return answer(user, 0);
    }

    int restrict(int user, int from, int to, int rights) {
        if (fault(user, from) != 0) {
            return fault(user, from);
        }
        if (fault(user, to) != 0) {
            return fault(user, to);
        }
        if (rights < 0 || rights > 15) {
            return -5;
        }
        if (!genuine(user, from)) {
            return answer(user, -3);
        }
        Gift old = slots[user][from].gift;
        slots[user][to] = give(old.object, old.rights & rights);
        return answer(user, old.rights & rights);
    }

    int again(int user) {
        if (fault(user, 0) != 0) {
            return fault(user, 0);
        }
        return answer(user, answers[user] == null ? -6 : answers[user]);
    }

    int copy(int user, int from, int to) {
        if (fault(user, from) != 0) {
            return fault(user, from);
        }
        int place = Math.floorMod(to, 16);
        slots[place / 8][place % 8] = slots[user][from];
        return 0;
    }

    int tamper(int user, int slot, int bits) {
        if (fault(user, slot) != 0) {
            return fault(user, slot);
        }
        Held held = slots[user][slot];
        if (held == null) {
            return -3;
        }
        slots[user][slot] = new Held(held.gift, held.changes ^ Math.floorMod(bits, 128));
        return 0;
    }

    int clear(int user, int slot) {
        if (fault(user, slot) != 0) {
            return fault(user, slot);
        }
        int answer = slots[user][slot] == null ? 0 : 1;
        slots[user][slot] = null;
        return answer;
    }

    void restart() {
        answers[0] = null;
        answers[1] = null;
    }

    boolean genuine(int user, int slot) {
        return fault(user, slot) == 0 && slots[user][slot] != null && slots[user][slot].genuine();
    }

    int rights(int user, int slot) {
        if (fault(user, slot) != 0) {
            return fault(user, slot);
        }
        return slots[user][slot] == null ? 0 : slots[user][slot].rights();
    }

    int alive() {
        int count = 0;
        for (Integer value : values) {
            count += value == null ? 0 : 1;
        }
        return count;
    }
}
