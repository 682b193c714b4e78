import java.util.NoSuchElementException;

/** What the tests share: calls whose answers are looked at, and texts put on the tape. */
final class Check {
    /** Stands for an exception where an answer is due. */
    static final long NO_SUCH = Long.MIN_VALUE;
    static final long BAD_ARGUMENT = Long.MIN_VALUE + 1;
    static final long ANOTHER = Long.MIN_VALUE + 2;

    interface Call {
        long answer();
    }

    private int wrong = 0;
    private int looked = 0;

    static long answerOf(Call call) {
        try {
            return call.answer();
        } catch (NoSuchElementException e) {
            return e.getClass() == NoSuchElementException.class ? NO_SUCH : ANOTHER;
        } catch (IllegalArgumentException e) {
            return e.getClass() == IllegalArgumentException.class ? BAD_ARGUMENT : ANOTHER;
        } catch (RuntimeException e) {
            return ANOTHER;
        }
    }

    static String told(long answer) {
        if (answer == NO_SUCH) {
            return "NoSuchElementException";
        }
        if (answer == BAD_ARGUMENT) {
            return "IllegalArgumentException";
        }
        return answer == ANOTHER ? "another exception" : Long.toString(answer);
    }

    void due(String what, long want, Call call) {
        long got = answerOf(call);
        looked++;
        if (got != want) {
            wrong++;
            if (wrong <= 20) {
                System.out.println(what + " answered " + told(got) + ", due is " + told(want));
            }
        }
    }

    void holds(String what, boolean holds) {
        due(what, 1, () -> holds ? 1 : 0);
    }

    /** Puts a text on the tape, blanks behind it; a tape that is full takes no more. */
    static void put(DreamMatins x, String text) {
        for (int at = 0; at < text.length(); at += 20) {
            int[] numbers = new int[5];
            for (int i = 0; i < 20; i++) {
                int sign = at + i < text.length() ? text.charAt(at + i) & 255 : ' ';
                numbers[i / 4] = numbers[i / 4] << 8 | sign;
            }
            x.feed(numbers[0], numbers[1], numbers[2], numbers[3], numbers[4]);
        }
    }

    static int read(DreamMatins x, String text) {
        put(x, text);
        return x.house(text.length());
    }

    /** A new object with a house that must be without a fault. */
    static DreamMatins with(String text) {
        DreamMatins x = new DreamMatins();
        int fault = read(x, text);
        if (fault != 0) {
            throw new IllegalStateException("fault " + fault + " at " + x.fault() + " of " + text);
        }
        return x;
    }

    void end() {
        System.out.println(looked + " answers, " + wrong + " not as due");
        if (wrong != 0) {
            System.exit(1);
        }
    }
}
