/** The promises one by one, told by hand: ordinary calls, the edges, wrong inputs. */
public final class PromiseTest {
    private static final Check C = new Check();
    private static final long NO_SUCH = Check.NO_SUCH;
    private static final long BAD = Check.BAD_ARGUMENT;
    /** Two basses and a tenor in two rooms; who sleeps 50 or more is up. */
    private static final String PLAIN = "room 5 1 0;room 7 0 1;bass 50 0 0;tenor 49 2 0;bass 99 9 1;";

    public static void main(String[] args) {
        newObject();
        feed();
        house();
        fault();
        count();
        room();
        monk();
        nights();
        fish();
        pray();
        tie();
        move();
        door();
        undo();
        up();
        then();
        full();
        meets();
        often();
        ring();
        from();
        meeting();
        leastFish();
        choirAndCouples();
        lonelyCrowdSpread();
        toPray();
        needless();
        psalm();
        silent();
        hear();
        eaten();
        listen();
        forget();
        game();
        years();
        imageAndRestore();
        dreams();
        C.end();
    }

    private static void newObject() {
        DreamMatins x = new DreamMatins();
        long[] due = {0, 0, 20, 10, 0, 0, 0, 0, 0, 0, 0, 0, 0, 0, 0};
        for (int what = 0; what < due.length; what++) {
            int w = what;
            C.due("new: count " + w, due[w], () -> x.count(w));
        }
        C.due("new: fault", -1, () -> x.fault());
        C.due("new: monk", NO_SUCH, () -> x.monk(0, 0));
        C.due("new: room", NO_SUCH, () -> x.room(0, 0));
        C.due("new: full", 1, () -> x.full());
        C.due("new: restore", 0, () -> x.restore() ? 1 : 0);
        C.due("new: undo", -1, () -> x.undo());
    }

    private static void feed() {
        DreamMatins x = new DreamMatins();
        for (int i = 1; i <= 35; i++) {
            int many = 20 * i;
            C.due("feed " + many, many, () -> x.feed(0, -1, 1, 2, 3));
        }
        C.due("feed above 700", -1, () -> x.feed(0, 0, 0, 0, 0));
        C.due("none came", 700, () -> x.count(11));
        DreamMatins y = new DreamMatins();
        y.feed('r' << 24 | 'o' << 16 | 'o' << 8 | 'm', 0x20392030, 0x20303b20, 0x20202020, 0x2020200a);
        C.due("the highest byte first", 0, () -> y.house(20));
        C.due("the verse", 9, () -> y.room(0, 0));
    }

    private static void house() {
        DreamMatins x = new DreamMatins();
        C.due("house of more than there is", BAD, () -> x.house(1));
        C.due("house below 0", BAD, () -> x.house(-1));
        C.due("nothing fed is a house", 0, () -> x.house(0));
        Check.put(x, PLAIN);
        int fed = x.count(11);
        C.due("house(fed + 1)", BAD, () -> x.house(fed + 1));
        C.due("house(MIN)", BAD, () -> x.house(Integer.MIN_VALUE));
        C.due("the tape is as it was", fed, () -> x.count(11));
        C.due("STATUS too", 0, () -> x.count(12));
        C.due("house", 0, () -> x.house(PLAIN.length()));
        C.due("the tape is empty", 0, () -> x.count(11));
        C.due("rooms", 2, () -> x.count(0));
        C.due("monks", 3, () -> x.count(1));
        x.nights(3);
        x.hear(1, 1, true);
        x.pray(0, -1);
        x.image();
        C.due("a fault", 1, () -> Check.read(x, "room 1;"));
        C.due("the tape is empty behind a fault", 0, () -> x.count(11));
        C.due("the night stays", 3, () -> x.count(4));
        C.due("acts stay", 1, () -> x.count(9));
        C.due("heard stays", 1, () -> x.count(10));
        C.due("the image stays", 1, () -> x.restore() ? 1 : 0);
        Check.read(x, "x");
        C.due("another house", 0, () -> Check.read(x, "room 3 8 1;room 4 2 3;tires 7;rests 8;alto 1 2 1;"));
        C.due("night 0", 0, () -> x.count(4));
        C.due("acts are gone", 0, () -> x.count(9));
        C.due("heard is gone", 0, () -> x.count(10));
        C.due("the image is gone", 0, () -> x.restore() ? 1 : 0);
        C.due("STATUS 0 stays", 1, () -> x.count(12));
        C.due("STATUS 1 stays", 1, () -> x.count(13));
        C.due("door MOD rooms", 0, () -> x.room(0, 1));
        C.due("wet door MOD rooms", 1, () -> x.room(1, 2));
        C.due("tires", 7, () -> x.count(2));
        C.due("rests", 8, () -> x.count(3));
        C.due("only the first bytes count", 0, () -> { Check.put(x, ROOMS_AND_MORE); return x.house(11); });
        C.due("one room", 1, () -> x.count(0));
        C.due("no monk is left", 0, () -> x.count(1));
        C.due("tires untold", 20, () -> x.count(2));
        C.due("rests untold", 10, () -> x.count(3));
    }

    private static final String ROOMS_AND_MORE = "room 1 0 0;xxx";

    private static void fault() {
        DreamMatins x = new DreamMatins();
        Check.read(x, "room 1 0 0;room 1 x 0;");
        C.due("fault", 18, () -> x.fault());
        C.due("house throws", BAD, () -> x.house(5));
        C.due("that was no fault", 18, () -> x.fault());
        Check.read(x, "room 1 0 ");
        C.due("the text's length", 9, () -> x.fault());
        Check.read(x, PLAIN);
        C.due("none", -1, () -> x.fault());
    }

    private static void count() {
        DreamMatins x = Check.with(PLAIN);
        x.tie(1, true);
        x.nights(1);
        long[] due = {2, 3, 20, 10, 1, 5, 2, 7, 0, 2, 0, 0, 0, 0, 0};
        for (int what = 0; what < due.length; what++) {
            int w = what;
            C.due("count " + w, due[w], () -> x.count(w));
        }
        for (int w : new int[] {-1, 15, Integer.MIN_VALUE, Integer.MAX_VALUE}) {
            C.due("count " + w, NO_SUCH, () -> x.count(w));
        }
        DreamMatins y = Check.with("room 1 0 0;bass 99 0 0;bass 99 0 0;bass 0 0 0;bass 99 0 0;");
        y.nights(1);
        C.due("alone", 4, () -> y.count(7));
        C.due("couples that met", 3, () -> y.count(8));
    }

    private static void room() {
        DreamMatins x = Check.with(PLAIN);
        long[] due = {7, 0, 1, 4};
        for (int what = 0; what < 4; what++) {
            int w = what;
            C.due("room 1 " + w, due[w], () -> x.room(1, w));
        }
        C.due("who is in room 0", 3, () -> x.room(0, 3));
        C.due("room -1", NO_SUCH, () -> x.room(-1, 0));
        C.due("room 2", NO_SUCH, () -> x.room(2, 0));
        C.due("room what -1", NO_SUCH, () -> x.room(0, -1));
        C.due("room what 4", NO_SUCH, () -> x.room(0, 4));
    }

    private static void monk() {
        DreamMatins x = Check.with(PLAIN);
        long[][] due = {{0, 50, 0, 0, 0, 1}, {1, 49, 2, 0, 0, 0}, {0, 99, 9, 1, 0, 1}};
        for (int monk = 0; monk < 3; monk++) {
            for (int what = 0; what < 6; what++) {
                int m = monk;
                int w = what;
                C.due("monk " + m + " " + w, due[m][w], () -> x.monk(m, w));
            }
        }
        C.due("monk -1", NO_SUCH, () -> x.monk(-1, 0));
        C.due("monk 3", NO_SUCH, () -> x.monk(3, 0));
        C.due("monk what -1", NO_SUCH, () -> x.monk(0, -1));
        C.due("monk what 6", NO_SUCH, () -> x.monk(0, 6));
        x.tie(0, true);
        C.due("a tied monk would not be up", 0, () -> x.monk(0, 5));
    }

    private static void nights() {
        DreamMatins x = Check.with(PLAIN);
        C.due("nights", 1, () -> x.nights(1));
        C.due("up at 50: tired", 30, () -> x.monk(0, 1));
        C.due("by the door", 1, () -> x.monk(0, 3));
        C.due("not up at 49: rested", 59, () -> x.monk(1, 1));
        C.due("stays", 0, () -> x.monk(1, 3));
        C.due("a fish less", 1, () -> x.monk(1, 2));
        C.due("by the wet door", 1, () -> x.monk(2, 3));
        C.due("nights 0", -1, () -> x.nights(0));
        C.due("nights 21", -1, () -> x.nights(21));
        C.due("nights MAX", -1, () -> x.nights(Integer.MAX_VALUE));
        C.due("STATUS 1", 3, () -> x.count(13));
        for (int i = 1; i < 50; i++) {
            x.nights(20);
        }
        C.due("981 nights", 981, () -> x.count(4));
        C.due("above 999", -1, () -> x.nights(19));
        C.due("999", 999, () -> x.nights(18));
        C.due("1000", -1, () -> x.nights(1));
        DreamMatins y = Check.with("room 1 0 0;bass 95 1 0;bass 5 0 0;tires 50;rests 50;dreams sleep<50;");
        y.nights(1);
        C.due("99 at most", 99, () -> y.monk(0, 1));
        C.due("not below 0", 0, () -> y.monk(1, 1));
        C.due("no fish less than 0", 0, () -> y.monk(1, 2));
        C.due("the last fish", 0, () -> y.monk(0, 2));
    }

    private static void fish() {
        DreamMatins x = Check.with(PLAIN);
        C.due("fish", 4, () -> x.fish(1, 2));
        C.due("9 at most", 9, () -> x.fish(1, 9));
        C.due("9 already, an act all the same", 9, () -> x.fish(1, 1));
        C.due("acts", 3, () -> x.count(9));
        C.due("fish 0", -1, () -> x.fish(1, 0));
        C.due("fish 10", -1, () -> x.fish(1, 10));
        C.due("no such monk", NO_SUCH, () -> x.fish(3, 0));
        C.due("no such monk", NO_SUCH, () -> x.fish(-1, 1));
        C.due("STATUS 1", 2, () -> x.count(13));
    }

    private static void pray() {
        DreamMatins x = Check.with(PLAIN);
        C.due("pray", 49, () -> x.pray(1, 99));
        C.due("pray 0", 99, () -> x.pray(1, 0));
        C.due("the same again", 0, () -> x.pray(1, 0));
        C.due("acts", 3, () -> x.count(9));
        C.due("pray 100", -1, () -> x.pray(1, 100));
        C.due("pray -1", -1, () -> x.pray(1, -1));
        C.due("no such monk", NO_SUCH, () -> x.pray(3, 5));
        C.due("STATUS 1", 2, () -> x.count(13));
    }

    private static void tie() {
        DreamMatins x = Check.with(PLAIN);
        C.due("loose already", 0, () -> x.tie(0, false) ? 1 : 0);
        C.due("tie", 1, () -> x.tie(0, true) ? 1 : 0);
        C.due("tied already", 0, () -> x.tie(0, true) ? 1 : 0);
        C.due("tie another", 1, () -> x.tie(2, true) ? 1 : 0);
        C.due("tied", 5, () -> x.count(6));
        C.due("nobody is up", 0, () -> x.up(1, 0));
        C.due("let loose", 1, () -> x.tie(0, false) ? 1 : 0);
        C.due("tied", 4, () -> x.count(6));
        C.due("no such monk", NO_SUCH, () -> x.tie(3, true) ? 1 : 0);
        C.due("STATUS 1", 2, () -> x.count(13));
    }

    private static void move() {
        DreamMatins x = Check.with(PLAIN);
        C.due("he is there", -1, () -> x.move(0, 0));
        C.due("move", 0, () -> x.move(0, 1));
        C.due("who is there", 5, () -> x.room(1, 3));
        C.due("no such monk", NO_SUCH, () -> x.move(3, 0));
        C.due("no such room", NO_SUCH, () -> x.move(0, 2));
        C.due("no such room", NO_SUCH, () -> x.move(0, -1));
        C.due("STATUS 1", 1, () -> x.count(13));
    }

    private static void door() {
        DreamMatins x = Check.with(PLAIN);
        C.due("it leads there", -1, () -> x.door(0, false, 1));
        C.due("door", 1, () -> x.door(0, false, 0));
        C.due("wet door", 0, () -> x.door(0, true, 1));
        C.due("the door", 0, () -> x.room(0, 1));
        C.due("the wet door", 1, () -> x.room(0, 2));
        C.due("no such room", NO_SUCH, () -> x.door(2, false, 0));
        C.due("no such room", NO_SUCH, () -> x.door(0, false, 2));
        C.due("no such room", NO_SUCH, () -> x.door(0, true, -1));
        C.due("STATUS 1", 1, () -> x.count(13));
    }

    private static void undo() {
        DreamMatins x = Check.with("room 1 0 1;room 2 1 0;bass 99 0 0;bass 99 3 0;");
        x.nights(20);
        x.fish(0, 5);
        x.pray(0, 7);
        x.tie(0, true);
        x.move(0, 1 - x.monk(0, 3));
        x.door(0, true, 0);
        x.door(0, false, 1);
        for (int left = 6; left >= 0; left--) {
            long due = left;
            C.due("undo", due, () -> x.undo());
        }
        long[] monk = {0, 99, 0, 0, 0, 1};
        for (int what = 0; what < 6; what++) {
            int w = what;
            C.due("as it was " + w, monk[w], () -> x.monk(0, w));
        }
        C.due("the door as it was", 0, () -> x.room(0, 1));
        C.due("the wet door as it was", 1, () -> x.room(0, 2));
        C.due("nobody is tied", 0, () -> x.count(6));
        C.due("nobody was up", 0, () -> x.count(5));
        C.due("night 0", 0, () -> x.count(4));
        C.due("none", -1, () -> x.undo());
        C.due("no STATUS by that", 0, () -> x.count(13));
        for (int i = 1; i <= 45; i++) {
            x.pray(0, i);
        }
        C.due("40 are kept", 40, () -> x.count(9));
        for (int i = 0; i < 40; i++) {
            x.undo();
        }
        C.due("the 5 first ones stand", 5, () -> x.monk(0, 1));
        C.due("no more to undo", -1, () -> x.undo());
    }

    private static void up() {
        DreamMatins x = Check.with(PLAIN);
        C.due("up", 5, () -> x.up(1, 0));
        C.due("matins", 12, () -> x.up(1, 1));
        C.due("short", 2, () -> x.up(1, 2));
        C.due("up 2", 6, () -> x.up(2, 0));
        C.due("short 2", 0, () -> x.up(2, 2));
        C.due("nothing went by", 0, () -> x.count(4));
        C.due("up 0", BAD, () -> x.up(0, 0));
        C.due("up 61", BAD, () -> x.up(61, 2));
        C.due("what 3 ahead of that", NO_SUCH, () -> x.up(61, 3));
        C.due("what -1", NO_SUCH, () -> x.up(1, -1));
        DreamMatins y = Check.with("room 1 0 0;bass 99 0 0;alto 99 0 0;");
        y.tie(1, true);
        C.due("a tied one's voice is short", 4, () -> y.up(1, 2));
    }

    private static void then() {
        DreamMatins x = Check.with(PLAIN);
        C.due("now", 0, () -> x.then(0, 0, 0));
        C.due("now", 50, () -> x.then(0, 0, 1));
        C.due("then", 1, () -> x.then(0, 1, 0));
        C.due("then", 40, () -> x.then(0, 2, 1));
        C.due("then -1", BAD, () -> x.then(0, -1, 0));
        C.due("then 61", BAD, () -> x.then(0, 61, 0));
        C.due("what", NO_SUCH, () -> x.then(0, 61, 2));
        C.due("monk", NO_SUCH, () -> x.then(3, 61, 0));
    }

    private static void full() {
        C.due("full", 2, () -> Check.with(PLAIN).full());
        C.due("never", -1, () -> Check.with("room 1 0 0;bass 9 0 0;rests 0;").full());
        C.due("in the 60th", 60, () -> Check.with("room 1 0 0;bass 9 0 0;dreams night=59;").full());
        C.due("not the 61st", -1, () -> Check.with("room 1 0 0;bass 9 0 0;dreams night=60;").full());
    }

    private static void meets() {
        DreamMatins x = Check.with("room 1 0 0;room 2 0 0;bass 0 0 0;bass 0 0 0;bass 0 0 1;dreams night=59;");
        C.due("behind 60", 60, () -> x.meets(0, 1));
        C.due("never", -1, () -> x.meets(2, 0));
        C.due("one and the same", -1, () -> x.meets(1, 1));
        C.due("no such monk", NO_SUCH, () -> x.meets(0, 3));
        C.due("no such monk", NO_SUCH, () -> x.meets(-1, -1));
        x.nights(20);
        x.nights(20);
        x.nights(20);
        C.due("already", 0, () -> x.meets(1, 0));
        C.due("met", 2, () -> x.monk(0, 4));
        C.due("met nobody", 0, () -> x.monk(2, 4));
    }

    private static void often() {
        DreamMatins x = Check.with("room 1 0 0;bass 0 0 0;dreams night-night/2*2;");
        C.due("often 0", 0, () -> x.often(0, 0));
        C.due("often 3", 1, () -> x.often(0, 3));
        C.due("often 60", 30, () -> x.often(0, 60));
        C.due("often 61", BAD, () -> x.often(0, 61));
        C.due("often -1", BAD, () -> x.often(0, -1));
        C.due("no such monk ahead", NO_SUCH, () -> x.often(1, 61));
    }

    private static final String WAYS =
        "room 1 1 0;room 2 2 0;room 3 3 4;room 4 1 4;room 5 0 2;room 6 6 6;room 7 6 5;";

    private static void ring() {
        DreamMatins x = Check.with(WAYS);
        C.due("ring", 3, () -> x.ring(0, false, 0));
        C.due("into", 1, () -> x.ring(0, false, 1));
        C.due("into", 2, () -> x.ring(4, false, 1));
        C.due("in it", 0, () -> x.ring(2, false, 1));
        C.due("wet of one", 1, () -> x.ring(0, true, 0));
        C.due("wet of two", 2, () -> x.ring(3, true, 0));
        C.due("wet into", 1, () -> x.ring(3, true, 1));
        C.due("no such room", NO_SUCH, () -> x.ring(7, true, 0));
        C.due("no such room", NO_SUCH, () -> x.ring(-1, true, 0));
        C.due("what", NO_SUCH, () -> x.ring(0, true, 2));
        DreamMatins all = Check.with("room 0 1 8;room 0 2 0;room 0 3 1;room 0 4 2;room 0 5 3;"
            + "room 0 6 4;room 0 7 5;room 0 8 6;room 0 0 8;");
        C.due("all nine", 9, () -> all.ring(4, false, 0));
        C.due("eight steps into", 8, () -> all.ring(7, true, 1));
    }

    private static void from() {
        DreamMatins x = Check.with(WAYS);
        C.due("from 0", 31, () -> x.from(0));
        C.due("from 5", 96, () -> x.from(5));
        C.due("no such room", NO_SUCH, () -> x.from(7));
        C.due("no such room", NO_SUCH, () -> x.from(-1));
        C.due("itself", 1, () -> Check.with("room 1 0 0;room 1 0 0;").from(0));
    }

    private static void meeting() {
        DreamMatins x = Check.with("room 1 1 0;room 1 2 2;room 1 3 3;room 1 3 3;bass 0 0 1;bass 0 0 0;");
        C.due("meeting", 3, () -> x.meeting(0));
        C.due("steps", 3, () -> x.meeting(1));
        C.due("what", NO_SUCH, () -> x.meeting(2));
        C.due("what", NO_SUCH, () -> x.meeting(-1));
        DreamMatins never = Check.with("room 1 1 1;room 1 0 0;bass 0 0 0;bass 0 0 1;");
        C.due("never", -1, () -> never.meeting(0));
        C.due("never", -1, () -> never.meeting(1));
        DreamMatins nobody = Check.with("room 1 0 0;");
        C.due("without monks", 0, () -> nobody.meeting(0));
        C.due("without monks", 0, () -> nobody.meeting(1));
        C.due("without rooms", -1, () -> new DreamMatins().meeting(1));
    }

    private static void leastFish() {
        DreamMatins x = Check.with(
            "room 1 0 0;bass 0 1 0;bass 0 2 0;tenor 0 9 0;tenor 0 1 0;bass 0 2 0;dreams fish=4;");
        C.due("all together", 5, () -> x.leastFish(-1));
        long[] row = {0, 0, 0, 3, 2};
        for (int monk = 0; monk < 5; monk++) {
            int m = monk;
            C.due("of " + m, row[m], () -> x.leastFish(m));
        }
        C.due("no such monk", NO_SUCH, () -> x.leastFish(5));
        C.due("no such monk", NO_SUCH, () -> x.leastFish(-2));
        x.tie(3, true);
        C.due("it can't be", -1, () -> x.leastFish(-1));
        C.due("it can't be", -1, () -> x.leastFish(0));
        C.due("full as it is", 0, () -> Check.with("room 1 0 0;bass 60 0 0;").leastFish(0));
    }

    private static void choirAndCouples() {
        DreamMatins x = Check.with("room 1 0 0;room 1 1 1;treble 99 0 0;treble 99 0 0;bass 99 0 1;alto 99 0 0;bass 0 0 0;");
        C.due("choir", 13, () -> x.choir());
        C.due("no couples yet", 0, () -> x.couples());
        x.nights(1);
        C.due("one of three", 1, () -> x.couples());
        x.move(2, 0);
        x.nights(1);
        C.due("two of four", 2, () -> x.couples());
        C.due("a choir of nobody", 0, () -> new DreamMatins().choir());
        DreamMatins all = Check.with("room 1 0 0;" + "bass 99 0 0;".repeat(8));
        all.nights(1);
        C.due("four of eight", 4, () -> all.couples());
        C.due("28 couples met", 28, () -> all.count(8));
        DreamMatins star = Check.with("room 1 0 0;room 2 1 1;room 3 2 2;bass 99 0 0;bass 99 0 0;bass 99 0 1;bass 99 0 2;");
        star.nights(1);
        star.move(0, 1);
        star.nights(1);
        star.move(0, 2);
        star.nights(1);
        C.due("a star has one", 1, () -> star.couples());
    }

    private static void lonelyCrowdSpread() {
        DreamMatins x = Check.with("room 1 1 1;room 2 2 2;room 3 2 2;bass 60 0 0;bass 60 0 0;bass 60 0 1;bass 0 0 2;");
        C.due("lonely", 4, () -> x.lonely(1));
        C.due("lonely 0", BAD, () -> x.lonely(0));
        C.due("lonely 61", BAD, () -> x.lonely(61));
        C.due("crowd", 0, () -> x.crowd(0));
        C.due("crowd: the least of like ones", 1, () -> x.crowd(1));
        C.due("crowd -1", BAD, () -> x.crowd(-1));
        C.due("crowd 61", BAD, () -> x.crowd(61));
        C.due("nobody", -1, () -> Check.with("room 1 0 0;").crowd(0));
        C.due("spread", 3, () -> x.spread(0));
        C.due("spread", 2, () -> x.spread(1));
        C.due("spread -1", BAD, () -> x.spread(-1));
        C.due("spread 61", BAD, () -> x.spread(61));
        C.due("nobody", 0, () -> Check.with("room 1 0 0;").spread(0));
    }

    private static void toPray() {
        DreamMatins x = Check.with(PLAIN);
        C.due("to pray", 50, () -> x.toPray(0, 1));
        C.due("the next night", 40, () -> x.toPray(1, 2));
        C.due("to pray 0", BAD, () -> x.toPray(0, 0));
        C.due("to pray 61", BAD, () -> x.toPray(0, 61));
        C.due("no such monk ahead", NO_SUCH, () -> x.toPray(3, 0));
        C.due("as he sleeps", 50, () -> x.monk(0, 1));
        x.tie(0, true);
        C.due("none", -1, () -> x.toPray(0, 1));
        C.due("just 99", 99, () -> Check.with("room 1 0 0;bass 0 0 0;dreams 98<sleep;").toPray(0, 1));
    }

    private static void needless() {
        DreamMatins x = Check.with("room 1 0 0;bass 99 0 0;bass 99 0 0;tenor 99 0 0;dreams 1;");
        C.due("needless", 3, () -> x.needless(1));
        C.due("in no nights all", 7, () -> x.needless(0));
        C.due("needless -1", BAD, () -> x.needless(-1));
        C.due("needless 61", BAD, () -> x.needless(61));
        x.tie(0, true);
        C.due("a tied one isn't", 0, () -> x.needless(1));
        x.tie(2, true);
        C.due("not full anyway", 2, () -> x.needless(60));
    }

    private static void psalm() {
        DreamMatins x = Check.with("room 9 1 1;room 4 2 2;room 4 0 0;bass 1 0 0;bass 1 0 0;dreams 1;");
        C.due("psalm", 9, () -> x.psalm(1));
        C.due("the least of like ones", 4, () -> x.psalm(2));
        C.due("two rooms, one verse", 4, () -> x.psalm(3));
        C.due("none", -1, () -> x.psalm(0));
        C.due("psalm -1", BAD, () -> x.psalm(-1));
        C.due("psalm 61", BAD, () -> x.psalm(61));
        C.due("nobody sings", -1, () -> Check.with("room 0 0 0;bass 0 0 0;rests 0;").psalm(60));
        C.due("verse 0", 0, () -> Check.with("room 0 0 0;bass 99 0 0;").psalm(1));
    }

    private static void silent() {
        C.due("silent", 3, () -> Check.with("room 0 0 0;bass 80 0 0;bass 0 0 0;").silent());
        C.due("never", -1, () -> Check.with("room 0 0 0;bass 80 0 0;dreams 1;").silent());
        C.due("the 60th", 60, () -> Check.with("room 0 0 0;bass 80 0 0;dreams 59-night;").silent());
        C.due("not the 61st", -1, () -> Check.with("room 0 0 0;bass 80 0 0;dreams 60-night;").silent());
    }

    private static void hear() {
        DreamMatins x = new DreamMatins();
        for (int i = 1; i <= 6; i++) {
            long due = i;
            C.due("hear", due, () -> x.hear(1, 5, true));
        }
        C.due("night 0", -1, () -> x.hear(0, 5, true));
        C.due("night 21", -1, () -> x.hear(21, 5, true));
        C.due("verse -1", -1, () -> x.hear(1, -1, true));
        C.due("verse 100", -1, () -> x.hear(1, 100, true));
        C.due("edges", 7, () -> x.hear(20, 0, false));
        C.due("edges", 8, () -> x.hear(1, 99, false));
        C.due("there are 8", -1, () -> x.hear(1, 1, true));
        C.due("heard", 8, () -> x.count(10));
        C.due("STATUS 2", 5, () -> x.count(14));
        C.due("STATUS 1", 0, () -> x.count(13));
    }

    /** Up with three fish or more; one fish leads elsewhere. */
    private static final String EATERS = "room 5 0 1;room 7 1 1;bass 0 0 0;tenor 0 1 0;dreams 2<fish;";

    private static void eaten() {
        DreamMatins x = Check.with(EATERS);
        C.due("all others", 18, () -> x.eaten(0));
        C.due("the first", 1, () -> x.eaten(1));
        C.due("so without", 1, () -> x.eaten(2));
        x.hear(2, 7, true);
        C.due("who had four or more", 12, () -> x.eaten(0));
        C.due("the first", 4, () -> x.eaten(1));
        C.due("not so without", 0, () -> x.eaten(2));
        x.hear(3, 7, false);
        C.due("just four", 2, () -> x.eaten(0));
        x.fish(0, 4);
        C.due("he has four: the other one four or fewer", 4, () -> x.eaten(0));
        C.due("the first", 10, () -> x.eaten(1));
        C.due("so without", 1, () -> x.eaten(2));
        x.hear(1, 5, false);
        C.due("how could that be", 0, () -> x.eaten(0));
        C.due("none", -1, () -> x.eaten(1));
        C.due("nor without", 0, () -> x.eaten(2));
        C.due("what", NO_SUCH, () -> x.eaten(3));
        C.due("what", NO_SUCH, () -> x.eaten(-1));
    }

    private static void listen() {
        DreamMatins x = Check.with(EATERS);
        C.due("5 or 0 at first", 1, () -> x.listen(0));
        C.due("two", 2, () -> x.listen(1));
        x.hear(1, 5, true);
        C.due("then 7 or 0", 2, () -> x.listen(0));
        C.due("two", 2, () -> x.listen(1));
        x.hear(1, 5, false);
        C.due("none", -1, () -> x.listen(0));
        C.due("none", 0, () -> x.listen(1));
        DreamMatins late = Check.with("room 5 0 1;room 7 1 1;bass 0 1 0;dreams night=0 or night=19;");
        C.due("the 20th night", 20, () -> late.listen(0));
        C.due("5 or 7 then", 2, () -> late.listen(1));
        C.due("what", NO_SUCH, () -> x.listen(2));
        C.due("what", NO_SUCH, () -> x.listen(-1));
    }

    private static void forget() {
        DreamMatins x = Check.with(EATERS);
        x.hear(1, 5, true);
        x.forget();
        C.due("heard", 0, () -> x.count(10));
        C.due("so without", 1, () -> x.eaten(2));
        C.due("hear", 1, () -> x.hear(1, 1, false));
    }

    private static void game() {
        DreamMatins x = Check.with("room 1 0 0;bass 0 0 0;tenor 0 0 0;alto 0 0 0;dreams sleep=99;");
        C.due("who prays gains", 1, () -> x.game(0, 1, 0));
        C.due("both pray", 11, () -> x.game(0, 1, 1));
        DreamMatins eats = Check.with("room 1 0 0;bass 0 0 0;tenor 0 0 0;dreams sleep=99 and met=0 or fish;");
        C.due("both eat", 1, () -> eats.game(1, 0, 0));
        C.due("both eat", 0, () -> eats.game(1, 0, 1));
        DreamMatins none = Check.with("room 1 0 0;bass 0 0 0;tenor 0 0 0;dreams 0;");
        C.due("fish cost", 11, () -> none.game(0, 1, 1));
        C.due("both are one", BAD, () -> x.game(1, 1, 0));
        C.due("what ahead", NO_SUCH, () -> x.game(1, 1, 2));
        C.due("no such monk", NO_SUCH, () -> x.game(3, 3, 0));
        C.due("no such monk", NO_SUCH, () -> x.game(0, -1, 0));
    }

    private static void years() {
        DreamMatins x = Check.with("room 3 0 0;bass 0 0 0;tenor 0 0 0;dreams sleep=99;tires 50;rests 0;");
        int[] prayers = new int[2];
        long matins = 0;
        int seed = 7;
        for (int i = 0; i < 60; i++) {
            seed = seed * 1103515245 + 12345;
            int event = (seed >>> 16) % 32768 % 5;
            if (event < 2) {
                seed = seed * 1103515245 + 12345;
                prayers[(seed >>> 16) % 32768 % 2] += event;
                matins += 3 * event;
            }
        }
        long due = matins;
        C.due("one gets up by each prayer", due, () -> x.years(7, 60, 1));
        C.holds("some prayed", prayers[0] > 0 && prayers[1] > 0);
        C.due("never full", 0, () -> x.years(7, 60, 0));
        C.due("nobody met", 0, () -> x.years(7, 60, 2));
        C.due("nothing went by", 0, () -> x.count(4));
        C.due("no nights", 0, () -> x.years(7, 0, 0));
        C.due("n -1", BAD, () -> x.years(7, -1, 0));
        C.due("n 61", BAD, () -> x.years(7, 61, 0));
        C.due("what ahead", NO_SUCH, () -> x.years(7, 61, 3));
        C.due("what -1", NO_SUCH, () -> x.years(7, 1, -1));
        C.due("without monks", 60, () -> new DreamMatins().years(7, 60, 0));
        DreamMatins all = Check.with("room 3 0 0;bass 0 0 0;tenor 0 0 0;dreams 1;");
        all.nights(1);
        C.due("who met stays so", 1, () -> all.years(1, 0, 2));
    }

    private static void imageAndRestore() {
        DreamMatins x = Check.with(PLAIN);
        C.due("no image", 0, () -> x.restore() ? 1 : 0);
        x.pray(0, 70);
        x.pray(0, -1);
        x.hear(1, 5, true);
        x.hear(0, 0, true);
        Check.read(x, "x");
        x.image();
        x.undo();
        x.nights(5);
        x.tie(1, true);
        x.door(0, false, 0);
        x.forget();
        x.hear(0, 0, true);
        x.nights(0);
        Check.read(x, "room x");
        Check.put(x, "room");
        for (int times = 0; times < 2; times++) {
            C.due("restore", 1, () -> x.restore() ? 1 : 0);
            long[] due = {2, 3, 20, 10, 0, 0, 0, 7, 0, 1, 1, 20, 1, 1, 1};
            for (int what = 0; what < due.length; what++) {
                int w = what;
                C.due("as the image: count " + w, due[w], () -> x.count(w));
            }
            C.due("sleep", 70, () -> x.monk(0, 1));
            C.due("door", 1, () -> x.room(0, 1));
            C.due("the place of the latest fault", 5, () -> x.fault());
            C.due("undo", 0, () -> x.undo());
            C.due("sleep ahead of that", 50, () -> x.monk(0, 1));
            x.nights(3);
        }
        x.image();
        x.restore();
        C.due("another image", 3, () -> x.count(4));
    }

    /** The value of a rule is told by the most it is above: n < (rule). */
    private static void worth(String rule, int value) {
        String house = "room 7 1 1;room 9 1 1;alto 33 4 0;bass 1 1 1;treble 1 0 0;dreams ";
        C.due(rule + " = " + value, 1, () -> Check.with(house + "(" + rule + ")" + equal(value) + ";").monk(0, 5));
    }

    private static String equal(int value) {
        return value < 0 ? "+" + -value + "=0" : "=" + value;
    }

    private static void dreams() {
        worth("sleep", 33);
        worth("fish", 4);
        worth("voice", 2);
        worth("room", 0);
        worth("verse", 7);
        worth("night", 0);
        worth("met", 1);
        worth("last", 0);
        worth("1+2*3", 7);
        worth("10-3-2", 5);
        worth("7/2*2", 6);
        worth("(0-7)/2", -3);
        worth("5/0", 0);
        worth("5/(1-1)+1", 1);
        worth("not 0", 1);
        worth("not 5", 0);
        worth("not not 5", 1);
        worth("not 1<0", 1);
        worth("2 and 3", 1);
        worth("2 and 0", 0);
        worth("0 or 7", 1);
        worth("0 or 0", 0);
        worth("1 or 1 and 0", 1);
        worth("2<3", 1);
        worth("3<3", 0);
        worth("3=3", 1);
        worth("9999*9999*9999<0", 1);
        worth("4096*4096*128/(0-1)<0", 1);
        String deep = "0 or 1 and 0<0+1*(".repeat(5);
        for (int end = 0; end < 2; end++) {
            String rule = deep + "0 or 1 and 0<0+1*" + end + ")".repeat(5);
            C.due(rule, end, () -> Check.with("room 1 0 0;bass 0 0 0;dreams " + rule + ";").up(1, 0));
        }
        String house = "room 1 0 0;bass 0 0 0;dreams 321=0";
        String longest = house + "+1".repeat(321) + " ".repeat(699 - 642 - house.length()) + ";";
        C.due("a text of 700 bytes", 700, () -> longest.length());
        C.due("its rule", 1, () -> Check.with(longest).up(1, 0));
        DreamMatins x = Check.with("room 7 1 1;room 9 1 1;alto 33 4 0;bass 1 1 1;dreams last=0 and night<2 or met;");
        x.nights(1);
        C.due("they met in one room, and one was up", 3, () -> x.up(1, 0));
        C.due("negative is not up", 0, () -> Check.with("room 1 0 0;bass 9 0 0;dreams 0-1;").up(1, 0));
        C.due("zero is not up", 0, () -> Check.with("room 1 0 0;bass 9 0 0;dreams 0;").up(1, 0));
    }
}
