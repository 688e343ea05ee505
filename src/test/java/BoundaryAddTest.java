/** Promise 4, sentence by sentence. */
public final class BoundaryAddTest {
    private static final int MIN = Integer.MIN_VALUE;
    private static final int MAX = Integer.MAX_VALUE;

    public static void main(String[] args) {
        Sentences promise = new Sentences();
        Boundary.Call add = (x, user, slot) -> x.add(user, slot, 5);
        promise.holds("4: BAD_USER", check -> Boundary.badUser(check, add));
        promise.holds("4: BAD_USER comes first", check -> Boundary.badUserComesFirst(check, add));
        promise.holds("4: BAD_SLOT", check -> Boundary.badSlot(check, add));
        promise.holds("4: users 0 and 1, slots 0 to 7 are good", check -> Boundary.everyGoodSlot(check, add));
        promise.holds("4: not genuine: REFUSED", check -> Boundary.refusesWhatIsNotGenuine(check, add));
        promise.holds("4: without ADD: REFUSED", check -> Boundary.refusesWithout(check, 2, add));
        promise.holds("4: ADD is enough", check -> Boundary.enoughIs(check, 2, add, new int[] {35, 36}));
        promise.holds("4: a refused one, whatever is to be added", BoundaryAddTest::refusedForEachNumber);
        promise.holds("4: the value wraps", BoundaryAddTest::wraps);
        promise.holds("4: adds to the value of the slot's object", BoundaryAddTest::theSlotsObject);
        promise.holds("4: answers the new value", BoundaryAddTest::answersTheNewValue);
        promise.holds("4: adding 0 changes no thing", BoundaryAddTest::addingZero);
        promise.finish();
    }

    private static void refusedForEachNumber(Check check) {
        for (int more : new int[] {0, 1, -1, -3, MIN, MAX}) {
            Boundary.refusesWhatIsNotGenuine(check, (x, user, slot) -> x.add(user, slot, more));
        }
    }

    private static void wraps(Check check) {
        int[][] sums = {
            {MAX, 1, MIN}, {MIN, -1, MAX}, {MIN, MIN, 0}, {MAX, MAX, -2}, {MAX, MIN, -1}, {MIN, MAX, -1},
            {1, MAX, MIN}, {-1, MIN, MAX}, {MAX, 0, MAX}, {MIN, 0, MIN}, {MAX - 1, 1, MAX}, {MIN + 1, -1, MIN}};
        for (int[] sum : sums) {
            CapabilityServer x = new CapabilityServer(8);
            x.create(0, 7);
            String what = sum[0] + " and " + sum[1];
            check.due("the first of " + what, x.add(0, 7, sum[0]), sum[0]);
            check.due("the sum of " + what, x.add(0, 7, sum[1]), sum[2]);
            check.due("read after " + what, x.read(0, 7), sum[2]);
            check.due("back again from " + what, x.add(0, 7, -sum[1]), sum[0]);
        }
    }

    private static void theSlotsObject(Check check) {
        CapabilityServer x = new CapabilityServer(8);
        for (int object = 0; object < 8; object++) {
            x.create(1, object);
            x.copy(1, object, 7 - object);
        }
        for (int object = 0; object < 8; object++) {
            check.due("add", x.add(1, object, 1 << object), 1 << object);
            check.due("add through the copy", x.add(0, 7 - object, 1 << object), 2 << object);
        }
        for (int object = 0; object < 8; object++) {
            check.due("no other has got it", x.read(1, object), 2 << object);
        }
    }

    private static void answersTheNewValue(Check check) {
        CapabilityServer x = new CapabilityServer(8);
        x.create(0, 0);
        x.restrict(0, 0, 1, CapabilityServer.ADD);
        for (int value = -1; value >= -7; value--) {
            check.due("add without READ", x.add(0, 1, -1), value);
            check.due("again", x.again(0), value);
            check.due("the value", x.read(0, 0), value);
        }
    }

    private static void addingZero(Check check) {
        for (int user = 0; user < 2; user++) {
            int[] at = {user, Scene.WHOLE};
            Boundary.Call call = (x, u, slot) -> x.add(u, slot, 0);
            Boundary.idleRequest(check, "add 0", Scene::open, call, at, Scene.own(user));
        }
    }
}
