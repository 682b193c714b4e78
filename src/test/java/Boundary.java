import java.util.Arrays;
import java.util.Set;
import java.util.TreeSet;

/** Runs tests of boundary cases: each bears the number of its promise and has an object of its own. */
final class Boundary {
    /** What an object answers behind 512 calls is free; some calls of a test go uncounted, so the bound is lower. */
    private static final int MOST_CALLS = 470;

    interface Body {
        void look(Case t);
    }

    interface Flag {
        boolean answer();
    }

    private final int firstPromise;
    private final int lastPromise;
    private final Set<Integer> named = new TreeSet<>();
    private int tests = 0;
    private int failed = 0;

    Boundary(int firstPromise, int lastPromise) {
        this.firstPromise = firstPromise;
        this.lastPromise = lastPromise;
    }

    /** A test on a new object without a house. */
    void test(int promise, String sentence, Body body) {
        run(promise, sentence, new DreamMatins(), 0, body);
    }

    void test(int promise, String sentence, String house, Body body) {
        run(promise, sentence, Check.with(house), 3 + house.length() / 20, body);
    }

    private void run(int promise, String sentence, DreamMatins x, int callsAhead, Body body) {
        Case one = new Case("promise " + promise + ": " + sentence, x, callsAhead);
        body.look(one);
        named.add(promise);
        tests++;
        if (one.calls > MOST_CALLS) {
            one.fail("needs " + one.calls + " calls, of " + MOST_CALLS);
        }
        failed += one.wrong == 0 ? 0 : 1;
    }

    void end() {
        for (int promise = firstPromise; promise <= lastPromise; promise++) {
            if (!named.contains(promise)) {
                System.out.println("promise " + promise + " has no test of a boundary");
                failed++;
            }
        }
        System.out.println(tests + " tests of boundaries, " + failed + " failed");
        if (failed != 0) {
            System.exit(1);
        }
    }

    /** One test: its object, and what is looked at. */
    static final class Case {
        final DreamMatins x;
        private final String name;
        private int calls;
        private int wrong = 0;

        private Case(String name, DreamMatins x, int callsAhead) {
            this.name = name;
            this.x = x;
            this.calls = callsAhead;
        }

        void fail(String how) {
            wrong++;
            System.out.println(name + ": " + how);
        }

        void is(long want, Check.Call call) {
            calls++;
            long got = Check.answerOf(call);
            if (got != want) {
                fail("answered " + Check.told(got) + ", due is " + Check.told(want));
            }
        }

        void is(boolean want, Flag call) {
            is(want ? 1 : 0, () -> call.answer() ? 1 : 0);
        }

        void noSuch(Check.Call call) {
            stays(Check.NO_SUCH, call);
        }

        void bad(Check.Call call) {
            stays(Check.BAD_ARGUMENT, call);
        }

        /** Many calls that go ahead of what is looked at. */
        void times(int many, Check.Call call) {
            for (int i = 0; i < many; i++) {
                calls++;
                call.answer();
            }
        }

        /** The answer is due, and nothing is another than it was. */
        void stays(long want, Check.Call call) {
            long[] was = all();
            is(want, call);
            compare(was);
        }

        /** NONE, and nothing is another than it was but one STATUS, which is one more. */
        void refused(int status, Check.Call call) {
            refusedWith(-1, status, call);
        }

        void refusedWith(long want, int status, Check.Call call) {
            long[] was = all();
            is(want, call);
            was[12 + status]++;
            compare(was);
        }

        private void compare(long[] due) {
            long[] seen = all();
            if (!Arrays.equals(due, seen)) {
                fail("all that is seen then is " + Arrays.toString(seen) + ", due is " + Arrays.toString(due));
            }
        }

        /** Counts, the fault's place, all rooms and monks, and what is heard by what it leaves. */
        private long[] all() {
            int rooms = x.count(0);
            int monks = x.count(1);
            long[] seen = new long[19 + 4 * rooms + 6 * monks];
            int at = 0;
            for (int what = 0; what < 15; what++) {
                seen[at++] = x.count(what);
            }
            seen[at++] = x.fault();
            for (int what = 0; what < 3; what++) {
                seen[at++] = x.eaten(what);
            }
            for (int i = 0; i < 4 * rooms; i++) {
                seen[at++] = x.room(i / 4, i % 4);
            }
            for (int i = 0; i < 6 * monks; i++) {
                seen[at++] = x.monk(i / 6, i % 6);
            }
            calls += 2 + seen.length;
            return seen;
        }
    }
}
