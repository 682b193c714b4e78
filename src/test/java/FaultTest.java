import java.util.Random;

/** Promises 3 and 4: texts with and without faults, told by hand, and spoilt ones against the finder. */
public final class FaultTest {
    private static final Check CHECK = new Check();
    private static final String ROOM = "room 1 0 0;";

    private static void is(String text, int fault, int place) {
        DreamMatins x = new DreamMatins();
        String shown = "[" + text + "] ";
        CHECK.due(shown + "house", fault, () -> Check.read(x, text));
        CHECK.due(shown + "fault", place, () -> x.fault());
        CHECK.due(shown + "STATUS 0", fault == 0 ? 0 : 1, () -> x.count(12));
        FaultFinder finder = new FaultFinder(text);
        CHECK.due(shown + "the finder's fault", fault, () -> finder.fault);
        CHECK.due(shown + "the finder's place", place, () -> finder.place);
    }

    private static void fine(String text) {
        is(text, 0, -1);
    }

    /** The last token, marked by a stroke ahead of it, is at fault. */
    private static void bad(String marked, int fault) {
        is(marked.replace("|", ""), fault, marked.indexOf('|'));
    }

    public static void main(String[] args) {
        lines();
        numbers();
        tooMany();
        expressions();
        nesting();
        spoilt();
        CHECK.end();
    }

    private static void lines() {
        fine("");
        fine("   \n \n");
        fine(ROOM);
        fine("room5 1 2;bass 1 2 0;");
        fine("room\n5\n1\n2\n;\n");
        fine("tires 5;rests 0;dreams 1;");
        bad("|x", 1);
        bad("|;", 1);
        bad("|5", 1);
        bad("|rooms 1 0 0;", 1);
        bad("|Room 1 0 0;", 1);
        bad("|sleep 5;", 1);
        bad("room|\t1 0 0;", 1);
        bad("room 1 0 0;|;", 1);
        bad("room|", 1);
        bad("room 1 0  |", 1);
        bad("room 1 0 0|", 1);
        bad("room 1 0 0 |room 1 0 0;", 1);
        bad("room 1 0 |;", 1);
        bad("room 1 0 0 |0;", 1);
        bad("room |-1 0 0;", 1);
        bad("room |fish 0 0;", 1);
        bad("tires 5;|tires 5;", 5);
        bad("rests 5;tires 5;|rests 500;", 5);
        bad("dreams 5;|dreams or;", 5);
        bad("|" + (char) 233, 1);
        bad(ROOM + "|" + (char) 0, 1);
    }

    private static void numbers() {
        fine("room 99 8 8;bass 99 9 0;tenor 0 0 0;tires 50;rests 50;");
        fine("room 0099 0008 0000;");
        bad("room |100 0 0;", 2);
        bad("room |00001 0 0;", 2);
        bad("room 1 |9 0;", 2);
        bad("room 1 0 |9;", 2);
        bad("room 1 0 |123456789123456789;", 2);
        bad(ROOM + "bass |100 0 0;", 2);
        bad(ROOM + "bass 9 |10 0;", 2);
        bad(ROOM + "bass 9 9 |1;", 3);
        bad(ROOM + "bass 9 9 |9;", 3);
        bad(ROOM + "bass 9 9 |9999;", 3);
        bad(ROOM + "bass 9 9 |10000;", 2);
        bad(ROOM + "bass 9 9 |x;", 1);
        bad("bass 9 9 |0;room 1 0 0;", 3);
        bad(ROOM + "bass 9 9 |1;room 1 0 0;", 3);
        bad("tires |0;", 2);
        bad("tires |51;", 2);
        fine("tires 1;");
        bad("rests |51;", 2);
    }

    private static void tooMany() {
        fine(ROOM.repeat(9) + "bass 1 1 8;".repeat(8));
        bad(ROOM.repeat(9) + "|room x", 2);
        bad(ROOM + "alto 1 1 0;".repeat(8) + "|treble x", 2);
    }

    private static void expressions() {
        fine("dreams 1;");
        fine("dreams 9999;");
        fine("dreams sleep<50 and not fish = 3 or met+last*voice/room-verse = night;");
        fine("dreams (1<2)<(2<3);");
        fine("dreams not not not not not not 1;");
        fine("dreams not not not not not not (not not not not not not 1) and not 1;");
        bad("dreams |;", 1);
        bad("dreams|", 1);
        bad("dreams 1|", 1);
        bad("dreams |10000;", 2);
        bad("dreams 1 |10000;", 1);
        bad("dreams 1 |fish;", 1);
        bad("dreams 1 |foo;", 1);
        bad("dreams 1 |not 1;", 1);
        bad("dreams |foo;", 3);
        bad("dreams |az;", 3);
        bad("dreams |fishz;", 3);
        bad("dreams |A;", 1);
        bad("dreams |`;", 1);
        bad("dreams |{;", 1);
        bad("dreams |:;", 1);
        bad("dreams |or 1;", 3);
        bad("dreams |bass;", 3);
        bad("dreams |dreams;", 3);
        bad("dreams 1+|not 1;", 3);
        bad("dreams 1<|not 1;", 3);
        bad("dreams 1<2|<3;", 1);
        bad("dreams 1=2|<3;", 1);
        bad("dreams 1 and |and 2;", 3);
        bad("dreams 1+|+2;", 1);
        bad("dreams |-2;", 1);
        bad("dreams (|);", 1);
        bad("dreams (1|;", 1);
        bad("dreams 1|);", 1);
        bad("dreams 1|>2;", 1);
        bad("dreams not |;", 1);
        bad("dreams not not not not not not |not 1;", 2);
        bad("dreams 1 and not not not not not not |not", 2);
    }

    private static void nesting() {
        fine("dreams (((((1)))));");
        fine("dreams (((((1)))))+(((((not 1)))));");
        bad("dreams ((((((|1))))));", 2);
        bad("dreams ((((((|not 1", 2);
        bad("dreams ((((((|foo", 2);
        bad("dreams ((((((|or", 2);
        bad("dreams ((((((|fish", 2);
        bad("dreams ((((((|(", 2);
        bad("dreams ((((((|99999", 2);
        bad("dreams ((((((|)", 1);
        bad("dreams ((((((|;", 1);
        bad("dreams ((((((|+", 1);
        bad("dreams ((((((  |", 1);
        bad("dreams 1+(1*(1<(1 and (not (1+(|1))))));", 2);
    }

    private static void spoilt() {
        String[] bits = {" ", ";", "(", ")", "+", "-", "<", "=", "*", "/", "not ", " and ", " or ", "fish", "room ",
            "1", "00000", "10000", "bass ", "tires 3;", "dreams ", "rests 1;", "x", ",", "room 1 2 3;", "((((((",
            "alto 1 1 0;", "not not not not not not not ", "\n", "A", "night"};
        for (int run = 0; run < 60000; run++) {
            Random chance = new Random(run);
            StringBuilder text = new StringBuilder(new RandomHouse(chance, 8).text);
            int changes = chance.nextInt(4);
            for (int i = 0; i < changes; i++) {
                int from = chance.nextInt(text.length() + 1);
                int to = Math.min(text.length(), from + chance.nextInt(3));
                text.replace(from, to, bits[chance.nextInt(bits.length)]);
            }
            text.setLength(Math.min(text.length(), chance.nextInt(9) == 0 ? chance.nextInt(700) : 700));
            FaultFinder finder = new FaultFinder(text.toString());
            is(text.toString(), finder.fault, finder.place);
        }
    }
}
