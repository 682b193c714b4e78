import java.util.Random;

/** Calls with any numbers at all, in any order: only the exceptions of the document, and what is kept stays within. */
public final class WildTest {
    private static final int[] EDGES = {Integer.MIN_VALUE, Integer.MAX_VALUE, -2, -1, 0, 1, 2, 7, 8, 9, 10, 15, 20, 21,
        59, 60, 61, 99, 100, 700, 999};
    private static Random chance = new Random(0);

    public static void main(String[] args) {
        Check check = new Check();
        for (int run = 0; run < 400; run++) {
            chance = new Random(1000 + run);
            DreamMatins x = new DreamMatins();
            for (int calls = 0; calls < 480; calls++) {
                if (calls % 160 == 5 && calls > 100) {
                    String text = new RandomHouse(chance, 8).text;
                    Check.put(x, text.substring(0, Math.min(400, text.length())));
                    x.house(x.count(11));
                }
                int which = chance.nextInt(39);
                long answer = Check.answerOf(() -> call(x, which));
                check.holds("run " + run + " call " + which, answer != Check.ANOTHER);
            }
            check.holds("acts", x.count(9) <= 40);
            check.holds("heard", x.count(10) <= 8);
            check.holds("tape", x.count(11) <= 700);
            check.holds("night", x.count(4) <= 999);
        }
        check.end();
    }

    private static int any() {
        switch (chance.nextInt(3)) {
            case 0: return EDGES[chance.nextInt(EDGES.length)];
            case 1: return chance.nextInt(9);
            default: return chance.nextInt(70) - 3;
        }
    }

    private static long call(DreamMatins x, int which) {
        boolean is = chance.nextBoolean();
        switch (which) {
            case 0: return x.feed(any(), any(), any(), any(), any());
            case 1: return x.house(any());
            case 2: return x.fault();
            case 3: return x.count(any());
            case 4: return x.room(any(), any());
            case 5: return x.monk(any(), any());
            case 6: return x.nights(any());
            case 7: return x.fish(any(), any());
            case 8: return x.pray(any(), any());
            case 9: return x.tie(any(), is) ? 1 : 0;
            case 10: return x.move(any(), any());
            case 11: return x.door(any(), is, any());
            case 12: return x.undo();
            case 13: return x.up(any(), any());
            case 14: return x.then(any(), any(), any());
            case 15: return x.full();
            case 16: return x.meets(any(), any());
            case 17: return x.often(any(), any());
            case 18: return x.ring(any(), is, any());
            case 19: return x.from(any());
            case 20: return x.meeting(any());
            case 21: return x.leastFish(any());
            case 22: return x.choir();
            case 23: return x.couples();
            case 24: return x.lonely(any());
            case 25: return x.crowd(any());
            case 26: return x.toPray(any(), any());
            case 27: return x.needless(any());
            case 28: return x.psalm(any());
            case 29: return x.spread(any());
            case 30: return x.silent();
            case 31: return x.hear(any(), any(), is);
            case 32: return x.eaten(any());
            case 33: return x.listen(any());
            case 34: return x.game(any(), any(), any());
            case 35: return x.years(any(), any(), any());
            case 36: x.forget(); return 0;
            case 37: x.image(); return 0;
            default: return x.restore() ? 1 : 0;
        }
    }
}
