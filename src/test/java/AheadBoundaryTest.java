/** Boundary cases of the questions about nights to come, rooms and monks: promises 15 to 32. */
public final class AheadBoundaryTest {
    private static final Boundary B = new Boundary(15, 32);
    private static final int LEAST = Integer.MIN_VALUE;
    private static final int MOST = Integer.MAX_VALUE;
    private static final int[] NOT_1_TO_60 = {LEAST, -1, 0, 61, MOST};
    private static final int[] NOT_0_TO_60 = {LEAST, -1, 61, MOST};
    private static final int[] NO_MONK = {LEAST, -1, 3, MOST};
    private static final String ROOM = "room 1 0 0;";
    private static final String PLAIN = "room 5 1 0;room 7 0 1;bass 50 0 0;tenor 49 2 0;bass 99 9 1;";
    /** By doors nine rooms are one ring, by wet doors each is one. */
    private static final String RING = "room 1 1 0;room 1 2 1;room 1 3 2;room 1 4 3;room 1 5 4;room 1 6 5;room 1 7 6;"
        + "room 1 8 7;room 1 0 8;";
    /** By doors one comes to the last of nine rooms, by wet doors nowhere. */
    private static final String CHAIN = RING.replace("room 1 0 8;", "room 1 8 8;");
    private static final String ALWAYS = "bass 0 0 0;dreams 1;";
    private static final String SIXTIETH = ROOM + "bass 0 0 0;dreams night=59;";
    private static final String BEYOND = ROOM + "bass 0 0 0;dreams night=60;";
    private static final String NOBODY = ROOM + "bass 0 0 0;dreams 0;";
    private static final String FOUR = ROOM + "bass 0 0 0;tenor 0 0 0;alto 0 0 0;treble 0 0 0;";

    public static void main(String[] args) {
        up();
        upMost();
        then();
        full();
        meets();
        often();
        ring();
        from();
        meeting();
        meetingWhere();
        leastFish();
        leastFishRows();
        choir();
        couples();
        lonely();
        crowd();
        toPray();
        needless();
        psalm();
        spread();
        silent();
        questionsChangeNothing();
        B.end();
    }

    private static void up() {
        for (int k : NOT_1_TO_60) {
            for (int i = 0; i < 3; i++) {
                int what = i;
                B.test(15, "IllegalArgumentException: not 1 to 60, " + k + ", what " + what, PLAIN,
                    t -> t.bad(() -> t.x.up(k, what)));
            }
        }
        for (int what : new int[] {LEAST, -1, 3, MOST}) {
            B.test(15, "NoSuchElementException: another what, " + what, PLAIN, t -> t.noSuch(() -> t.x.up(1, what)));
            B.test(15, "NoSuchElementException ahead of the other one, " + what, PLAIN, t -> {
                t.noSuch(() -> t.x.up(0, what));
                t.noSuch(() -> t.x.up(61, what));
            });
        }
        B.test(15, "UP in the 1st NIGHT: the next one", PLAIN, t -> t.is(5, () -> t.x.up(1, 0)));
        B.test(15, "UP in the 60th NIGHT", SIXTIETH, t -> {
            t.is(1, () -> t.x.up(60, 0));
            t.is(0, () -> t.x.up(59, 0));
        });
        B.test(15, "from now, not from NIGHT 0", SIXTIETH, t -> {
            t.times(2, () -> t.x.nights(20));
            t.is(1, () -> t.x.up(20, 0));
            t.is(0, () -> t.x.up(60, 0));
        });
        B.test(15, "without MONKS nobody is UP, 0 is sung, nothing SHORT", t -> {
            for (int i = 0; i < 3; i++) {
                int what = i;
                t.is(0, () -> t.x.up(60, what));
            }
        });
    }

    private static void upMost() {
        B.test(15, "MATINS where nobody is UP", NOBODY, t -> t.is(0, () -> t.x.up(1, 1)));
        B.test(15, "MATINS of VERSE 0", "room 0 0 0;" + ALWAYS, t -> t.is(0, () -> t.x.up(1, 1)));
        B.test(15, "MATINS at most: eight sing 99", "room 99 0 0;" + "bass 99 0 0;".repeat(8), t -> {
            t.is(255, () -> t.x.up(1, 0));
            t.is(792, () -> t.x.up(1, 1));
        });
        B.test(15, "MATINS: the ROOM in which he gets up, not the one to which he goes",
            "room 3 1 1;room 9 1 1;bass 50 0 0;", t -> t.is(3, () -> t.x.up(1, 1)));
        B.test(15, "SHORT: all four", FOUR + "rests 0;", t -> t.is(15, () -> t.x.up(60, 2)));
        B.test(15, "SHORT: none", FOUR + "dreams 1;", t -> t.is(0, () -> t.x.up(60, 2)));
        B.test(15, "SHORT: just VOICES that some MONK has", ROOM + "treble 0 0 0;", t -> t.is(8, () -> t.x.up(1, 2)));
        B.test(15, "SHORT: that of one who is TIED", FOUR + "dreams 1;", t -> {
            t.x.tie(2, true);
            t.is(4, () -> t.x.up(1, 2));
        });
        B.test(15, "SHORT: not if another one has it", ROOM + "alto 0 0 0;alto 0 0 0;dreams 1;", t -> {
            t.x.tie(0, true);
            t.is(0, () -> t.x.up(1, 2));
        });
    }

    private static void then() {
        for (int nights : NOT_0_TO_60) {
            B.test(16, "IllegalArgumentException: not 0 to 60, " + nights, PLAIN, t -> {
                t.bad(() -> t.x.then(0, nights, 0));
                t.bad(() -> t.x.then(0, nights, 1));
            });
        }
        for (int what : new int[] {LEAST, -1, 2, MOST}) {
            B.test(16, "NoSuchElementException: another what, " + what, PLAIN, t -> {
                t.noSuch(() -> t.x.then(0, 0, what));
                t.noSuch(() -> t.x.then(0, 61, what));
            });
        }
        for (int monk : NO_MONK) {
            B.test(16, "NoSuchElementException: no such MONK, " + monk, PLAIN, t -> {
                t.noSuch(() -> t.x.then(monk, 0, 0));
                t.noSuch(() -> t.x.then(monk, -1, 0));
            });
        }
        B.test(16, "behind 0 NIGHTS it is as now", PLAIN, t -> {
            t.is(1, () -> t.x.then(2, 0, 0));
            t.is(99, () -> t.x.then(2, 0, 1));
        });
        B.test(16, "the ROOM behind 60: six times round nine, and six more", RING + ALWAYS, t -> {
            t.is(6, () -> t.x.then(0, 60, 0));
            t.is(5, () -> t.x.then(0, 59, 0));
        });
        B.test(16, "SLEEP behind 60", NOBODY + "rests 1;", t -> {
            t.is(60, () -> t.x.then(0, 60, 1));
            t.is(59, () -> t.x.then(0, 59, 1));
        });
    }

    private static void full() {
        B.test(17, "the first NIGHT", FOUR + "dreams 1;", t -> t.is(1, () -> t.x.full()));
        B.test(17, "the 60th NIGHT", SIXTIETH, t -> t.is(60, () -> t.x.full()));
        B.test(17, "NONE: the 61st is too late", BEYOND, t -> t.is(-1, () -> t.x.full()));
        B.test(17, "NONE: never", NOBODY, t -> t.is(-1, () -> t.x.full()));
        B.test(17, "without MONKS each is", t -> t.is(1, () -> t.x.full()));
        B.test(17, "with ROOMS alone, too", ROOM, t -> t.is(1, () -> t.x.full()));
        B.test(17, "NONE: a VOICE of one who is TIED is needed, too", FOUR + "dreams 1;", t -> {
            t.x.tie(3, true);
            t.is(-1, () -> t.x.full());
        });
        B.test(17, "one of each VOICE is enough", ROOM + "bass 0 0 0;bass 0 0 0;dreams 1;", t -> {
            t.x.tie(0, true);
            t.is(1, () -> t.x.full());
        });
        B.test(17, "NONE: all VOICES, but never in one NIGHT",
            ROOM + "bass 0 0 0;tenor 0 0 0;dreams night-night/2*2=voice;", t -> t.is(-1, () -> t.x.full()));
    }

    private static void meets() {
        String two = "bass 0 0 0;bass 0 0 0;";
        for (int monk : NO_MONK) {
            B.test(18, "NoSuchElementException: either one, " + monk, PLAIN, t -> {
                t.noSuch(() -> t.x.meets(monk, 0));
                t.noSuch(() -> t.x.meets(0, monk));
            });
            B.test(18, "NoSuchElementException: both are one, and there is none such, " + monk, PLAIN,
                t -> t.noSuch(() -> t.x.meets(monk, monk)));
        }
        B.test(18, "NONE: both are one", PLAIN, t -> t.is(-1, () -> t.x.meets(2, 2)));
        B.test(18, "NONE: both are one, who MET others", ROOM + two + "dreams 1;", t -> {
            t.x.nights(1);
            t.is(-1, () -> t.x.meets(0, 0));
        });
        B.test(18, "0: they have MET", ROOM + two + "dreams night=0;", t -> {
            t.x.nights(1);
            t.is(0, () -> t.x.meets(0, 1));
            t.is(0, () -> t.x.meets(1, 0));
        });
        B.test(18, "1: in the next NIGHT", ROOM + two + "dreams 1;", t -> t.is(1, () -> t.x.meets(0, 1)));
        B.test(18, "60: in the 60th NIGHT", ROOM + two + "dreams night=59;", t -> {
            t.is(60, () -> t.x.meets(0, 1));
            t.is(60, () -> t.x.meets(1, 0));
        });
        B.test(18, "NONE: the 61st is too late", ROOM + two + "dreams night=60;", t -> t.is(-1, () -> t.x.meets(0, 1)));
        B.test(18, "NONE: never", ROOM + two + "dreams 0;", t -> t.is(-1, () -> t.x.meets(0, 1)));
    }

    private static void often() {
        for (int nights : NOT_0_TO_60) {
            B.test(19, "IllegalArgumentException: not 0 to 60, " + nights, PLAIN, t -> t.bad(() -> t.x.often(0, nights)));
        }
        for (int monk : NO_MONK) {
            B.test(19, "NoSuchElementException, ahead of the other one, " + monk, PLAIN, t -> {
                t.noSuch(() -> t.x.often(monk, 0));
                t.noSuch(() -> t.x.often(monk, 61));
            });
        }
        B.test(19, "of 0 NIGHTS 0", ROOM + ALWAYS, t -> t.is(0, () -> t.x.often(0, 0)));
        B.test(19, "of 1 NIGHT 1", ROOM + ALWAYS, t -> t.is(1, () -> t.x.often(0, 1)));
        B.test(19, "of 60 NIGHTS 60", ROOM + ALWAYS, t -> t.is(60, () -> t.x.often(0, 60)));
        B.test(19, "the 60th counts, the 61st doesn't", SIXTIETH, t -> {
            t.is(1, () -> t.x.often(0, 60));
            t.is(0, () -> t.x.often(0, 59));
            t.is(0, () -> Check.with(BEYOND).often(0, 60));
        });
        B.test(19, "who is TIED never is", ROOM + ALWAYS, t -> {
            t.x.tie(0, true);
            t.is(0, () -> t.x.often(0, 60));
        });
    }

    private static void ring() {
        for (int room : new int[] {LEAST, -1, 2, MOST}) {
            B.test(20, "NoSuchElementException: no such ROOM, " + room, PLAIN, t -> {
                t.noSuch(() -> t.x.ring(room, false, 0));
                t.noSuch(() -> t.x.ring(room, true, 1));
            });
        }
        for (int what : new int[] {LEAST, -1, 2, MOST}) {
            B.test(20, "NoSuchElementException: another what, " + what, PLAIN,
                t -> t.noSuch(() -> t.x.ring(0, false, what)));
        }
        B.test(20, "a ROOM that leads to itself: 1, INTO 0", RING, t -> {
            t.is(1, () -> t.x.ring(8, true, 0));
            t.is(0, () -> t.x.ring(8, true, 1));
        });
        B.test(20, "all nine: 9, INTO 0", RING, t -> {
            t.is(9, () -> t.x.ring(8, false, 0));
            t.is(0, () -> t.x.ring(8, false, 1));
        });
        B.test(20, "the last of nine alone: 1, INTO 8", CHAIN, t -> {
            t.is(1, () -> t.x.ring(0, false, 0));
            t.is(8, () -> t.x.ring(0, false, 1));
        });
        B.test(20, "a ring of 2, INTO 1", "room 1 1 0;room 1 2 0;room 1 1 0;", t -> {
            t.is(2, () -> t.x.ring(0, false, 0));
            t.is(1, () -> t.x.ring(0, false, 1));
            t.is(0, () -> t.x.ring(2, false, 1));
        });
        B.test(20, "a DOOR that leads elsewhere now", RING, t -> {
            t.x.door(8, false, 7);
            t.is(2, () -> t.x.ring(0, false, 0));
            t.is(7, () -> t.x.ring(0, false, 1));
        });
    }

    private static void from() {
        for (int room : new int[] {LEAST, -1, 2, MOST}) {
            B.test(21, "NoSuchElementException: no such ROOM, " + room, PLAIN, t -> t.noSuch(() -> t.x.from(room)));
        }
        B.test(21, "NoSuchElementException: no ROOMS", t -> t.noSuch(() -> t.x.from(0)));
        B.test(21, "itself, too: it alone", CHAIN, t -> t.is(256, () -> t.x.from(8)));
        B.test(21, "itself, too: no DOOR leads there", "room 1 1 1;room 1 1 1;", t -> t.is(3, () -> t.x.from(0)));
        B.test(21, "all nine, by eight steps", CHAIN, t -> t.is(511, () -> t.x.from(0)));
        B.test(21, "by any DOORS, now a WET one, now none", "room 1 0 1;room 1 2 1;room 1 2 2;", t -> {
            t.is(7, () -> t.x.from(0));
            t.is(6, () -> t.x.from(1));
            t.is(4, () -> t.x.from(2));
        });
    }

    private static void met(String sentence, String house, int room, int steps) {
        B.test(22, sentence, house, t -> {
            t.is(room, () -> t.x.meeting(0));
            t.is(steps, () -> t.x.meeting(1));
        });
    }

    private static void meeting() {
        for (int what : new int[] {LEAST, -1, 2, MOST}) {
            B.test(22, "NoSuchElementException: another what, " + what, PLAIN, t -> t.noSuch(() -> t.x.meeting(what)));
            B.test(22, "NoSuchElementException without ROOMS, too, " + what, t -> t.noSuch(() -> t.x.meeting(what)));
        }
        B.test(22, "NONE: no ROOMS", t -> {
            t.is(-1, () -> t.x.meeting(0));
            t.is(-1, () -> t.x.meeting(1));
        });
        met("NONE: no ROOMS in a HOUSE", "tires 5;", -1, -1);
        met("no MONKS: all of none are in the first ROOM by 0 steps", RING, 0, 0);
        met("0 steps: one MONK", RING + "bass 0 0 8;", 8, 0);
        met("0 steps: all in one ROOM", RING + "bass 0 0 3;".repeat(8), 3, 0);
        met("NONE: they change places for ever", "room 1 1 1;room 1 0 0;bass 0 0 0;bass 0 0 1;", -1, -1);
        met("NONE: each stays where he is", "room 1 0 0;room 1 1 1;bass 0 0 0;bass 0 0 1;", -1, -1);
        String slow = "room 1 1 1;room 1 2 2;room 1 3 3;room 1 4 4;room 1 5 5;room 1 6 6;room 1 7 7;room 1 8 8;room 1 1 0;"
            + "bass 0 0 0;bass 0 0 1;bass 0 0 2;bass 0 0 3;bass 0 0 4;bass 0 0 5;bass 0 0 6;bass 0 0 7;";
        met("very many steps: rings of eight and nine, all but one ROOM", slow, 1, 57);
    }

    private static void meetingWhere() {
        met("of like ones the least", "room 1 2 1;room 1 1 1;room 1 2 2;room 1 1 2;bass 0 0 0;bass 0 0 3;", 1, 1);
        met("just so many steps: who is there must go on, too", "room 1 1 1;room 1 2 2;room 1 2 2;bass 0 0 0;bass 0 0 1;",
            2, 2);
        met("each as he chooses, by a WET DOOR without FISH", "room 1 0 1;room 1 1 1;bass 0 0 0;bass 0 0 1;", 1, 1);
        B.test(22, "all MONKS, those who are TIED, too", "room 1 0 1;room 1 1 1;bass 0 0 0;bass 0 0 1;", t -> {
            t.x.tie(0, true);
            t.is(1, () -> t.x.meeting(0));
            t.is(1, () -> t.x.meeting(1));
        });
    }

    /** What all must have more together, and then each one. */
    private static void least(String sentence, String house, int all, int... each) {
        B.test(23, sentence, house, t -> {
            t.is(all, () -> t.x.leastFish(-1));
            for (int i = 0; i < each.length; i++) {
                int monk = i;
                t.is(each[monk], () -> t.x.leastFish(monk));
            }
        });
    }

    private static void leastFish() {
        for (int monk : new int[] {LEAST, -2, 3, MOST}) {
            B.test(23, "NoSuchElementException: no such MONK, " + monk, PLAIN, t -> t.noSuch(() -> t.x.leastFish(monk)));
        }
        B.test(23, "NoSuchElementException, though it can't be", NOBODY, t -> t.noSuch(() -> t.x.leastFish(1)));
        B.test(23, "without MONKS all together 0, and there is no MONK 0", t -> {
            t.is(0, () -> t.x.leastFish(-1));
            t.noSuch(() -> t.x.leastFish(0));
        });
        least("0: it is FULL anyway", FOUR + "dreams 1;", 0, 0, 0, 0, 0);
        least("NONE: it can't be", NOBODY, -1, -1);
        least("NONE: it can't be for one of them", ROOM + "bass 0 0 0;tenor 0 0 0;dreams voice=0;", -1, -1, -1);
        least("9 at most then: just 9", ROOM + "bass 0 0 0;dreams 8<fish;", 9, 9);
        least("9 at most then: 10 can't be", ROOM + "bass 0 0 0;dreams 9<fish;", -1, -1);
        least("9 at most then: he has 8", ROOM + "bass 0 8 0;dreams 8<fish;", 1, 1);
        least("more, not fewer", ROOM + "bass 0 5 0;dreams fish<5;", -1, -1);
        least("all together at most: four times 9", FOUR + "dreams 8<fish;", 36, 9, 9, 9, 9);
        B.test(23, "NONE: the only one of his VOICE is TIED", ROOM + "bass 0 0 0;dreams fish;", t -> {
            t.is(1, () -> t.x.leastFish(-1));
            t.x.tie(0, true);
            t.is(-1, () -> t.x.leastFish(-1));
        });
    }

    private static void leastFishRows() {
        least("of like ones the first row: fewer ones first", ROOM + "bass 0 0 0;bass 0 0 0;dreams 2<fish;", 3, 0, 3);
        least("all together comes ahead of the row", ROOM + "bass 0 1 0;bass 0 0 0;dreams 2<fish;", 2, 2, 0);
        least("one who is UP anyway is enough", ROOM + "bass 0 0 0;bass 99 0 0;dreams 2<fish or sleep=99;", 0, 0, 0);
        least("just so many, no more", ROOM + "bass 0 5 0;bass 0 3 0;dreams fish=4;", 1, 0, 1);
        least("each VOICE by itself", ROOM + "bass 0 0 0;tenor 0 1 0;bass 0 0 0;tenor 0 1 0;dreams 2<fish;", 5, 0, 0, 3, 2);
        B.test(23, "of like ones the first row, the last one is TIED", ROOM + "bass 0 0 0;bass 0 0 0;dreams 2<fish;", t -> {
            t.x.tie(1, true);
            t.is(3, () -> t.x.leastFish(0));
            t.is(0, () -> t.x.leastFish(1));
        });
    }

    private static void choir() {
        B.test(24, "without MONKS none", t -> t.is(0, () -> t.x.choir()));
        B.test(24, "eight of one VOICE: the first", ROOM + "alto 0 0 0;".repeat(8), t -> t.is(1, () -> t.x.choir()));
        B.test(24, "each VOICE once: all four", FOUR, t -> t.is(15, () -> t.x.choir()));
        B.test(24, "the last of eight is needed", ROOM + "alto 0 0 0;".repeat(7) + "bass 0 0 0;",
            t -> t.is(129, () -> t.x.choir()));
        B.test(24, "of as few the least as bits", ROOM + "bass 0 0 0;bass 0 0 0;alto 0 0 0;bass 0 0 0;alto 0 0 0;",
            t -> t.is(5, () -> t.x.choir()));
        B.test(24, "who is TIED has his VOICE, too", FOUR, t -> {
            t.x.tie(0, true);
            t.is(15, () -> t.x.choir());
        });
    }

    private static void couples() {
        String apart = "room 1 0 0;room 1 1 1;room 1 2 2;room 1 3 3;bass 0 0 0;bass 0 0 1;bass 0 0 2;bass 0 0 3;dreams 1;";
        B.test(25, "without MONKS 0", t -> t.is(0, () -> t.x.couples()));
        B.test(25, "nobody MET: 0", apart, t -> {
            t.x.nights(20);
            t.is(0, () -> t.x.couples());
        });
        B.test(25, "eight who all MET: 4", ROOM + "bass 99 0 0;".repeat(8), t -> {
            t.x.nights(1);
            t.is(4, () -> t.x.couples());
        });
        B.test(25, "seven who all MET: 3, one is left", ROOM + "bass 99 0 0;".repeat(7), t -> {
            t.x.nights(1);
            t.is(3, () -> t.x.couples());
        });
        B.test(25, "each one in one: one MET three others", apart, t -> {
            for (int i = 1; i <= 3; i++) {
                t.x.move(0, i);
                t.x.nights(1);
            }
            t.is(3, () -> t.x.count(8));
            t.is(1, () -> t.x.couples());
        });
        B.test(25, "the most: 2 by 0 with 2 and 1 with 3, not 1 by 0 with 1", apart, t -> {
            t.x.move(0, 1);
            t.x.nights(1);
            t.x.move(0, 2);
            t.x.nights(1);
            t.x.move(0, 0);
            t.x.move(1, 3);
            t.x.nights(1);
            t.is(3, () -> t.x.count(8));
            t.is(2, () -> t.x.couples());
        });
    }

    private static void lonely() {
        for (int k : NOT_1_TO_60) {
            B.test(26, "IllegalArgumentException: not 1 to 60, " + k, PLAIN, t -> t.bad(() -> t.x.lonely(k)));
        }
        B.test(26, "nobody is UP", NOBODY, t -> t.is(0, () -> t.x.lonely(1)));
        B.test(26, "without MONKS nobody", t -> t.is(0, () -> t.x.lonely(60)));
        B.test(26, "others are there, but not UP", ROOM + "bass 49 0 0;bass 50 0 0;bass 0 0 0;",
            t -> t.is(2, () -> t.x.lonely(1)));
        B.test(26, "two are UP in one ROOM", ROOM + "bass 50 0 0;bass 50 0 0;", t -> t.is(0, () -> t.x.lonely(1)));
        B.test(26, "each in a ROOM of his own", "room 1 1 1;room 1 1 1;bass 50 0 0;bass 50 0 1;",
            t -> t.is(3, () -> t.x.lonely(1)));
        B.test(26, "each of eight in a ROOM of his own", eightApart() + "dreams 1;", t -> t.is(255, () -> t.x.lonely(60)));
        B.test(26, "the 60th NIGHT", SIXTIETH, t -> {
            t.is(1, () -> t.x.lonely(60));
            t.is(0, () -> t.x.lonely(59));
        });
    }

    private static void crowd() {
        for (int nights : NOT_0_TO_60) {
            B.test(27, "IllegalArgumentException: not 0 to 60, " + nights, PLAIN, t -> t.bad(() -> t.x.crowd(nights)));
            B.test(27, "IllegalArgumentException without MONKS, too, " + nights, t -> t.bad(() -> t.x.crowd(nights)));
        }
        B.test(27, "NONE: no MONKS, no ROOMS", t -> t.is(-1, () -> t.x.crowd(0)));
        B.test(27, "NONE: no MONKS", RING, t -> t.is(-1, () -> t.x.crowd(60)));
        B.test(27, "behind 0 NIGHTS, of like ones the least", "room 1 0 0;room 1 1 1;room 1 2 2;bass 0 0 2;bass 0 0 1;",
            t -> t.is(1, () -> t.x.crowd(0)));
        B.test(27, "of like ones the least: ROOM 0", "room 1 0 0;room 1 1 1;bass 0 0 1;bass 0 0 0;",
            t -> t.is(0, () -> t.x.crowd(0)));
        B.test(27, "most, though another one is less", "room 1 0 0;room 1 1 1;bass 0 0 0;bass 0 0 1;bass 0 0 1;",
            t -> t.is(1, () -> t.x.crowd(0)));
        B.test(27, "behind 60 NIGHTS", RING + ALWAYS, t -> {
            t.is(6, () -> t.x.crowd(60));
            t.is(5, () -> t.x.crowd(59));
        });
        B.test(27, "who is TIED is there, too", "room 1 0 0;room 1 1 1;bass 0 0 0;bass 0 0 1;bass 0 0 1;", t -> {
            t.x.tie(1, true);
            t.x.tie(2, true);
            t.is(1, () -> t.x.crowd(1));
        });
    }

    private static void toPray() {
        for (int k : NOT_1_TO_60) {
            B.test(28, "IllegalArgumentException: not 1 to 60, " + k, PLAIN, t -> t.bad(() -> t.x.toPray(0, k)));
        }
        for (int monk : NO_MONK) {
            B.test(28, "NoSuchElementException, ahead of the other one, " + monk, PLAIN, t -> {
                t.noSuch(() -> t.x.toPray(monk, 1));
                t.noSuch(() -> t.x.toPray(monk, 0));
            });
        }
        B.test(28, "0 is enough", ROOM + ALWAYS, t -> t.is(0, () -> t.x.toPray(0, 1)));
        B.test(28, "just 99", ROOM + "bass 0 0 0;dreams 98<sleep;", t -> t.is(99, () -> t.x.toPray(0, 1)));
        B.test(28, "the least, though he has more", ROOM + "bass 99 0 0;", t -> t.is(50, () -> t.x.toPray(0, 1)));
        B.test(28, "NONE: 100 can't be", ROOM + "bass 0 0 0;dreams 99<sleep;", t -> t.is(-1, () -> t.x.toPray(0, 1)));
        B.test(28, "NONE: he is TIED", ROOM + ALWAYS, t -> {
            t.x.tie(0, true);
            t.is(-1, () -> t.x.toPray(0, 60));
        });
        B.test(28, "NONE: in that NIGHT never", SIXTIETH, t -> t.is(-1, () -> t.x.toPray(0, 59)));
        B.test(28, "the 60th NIGHT: 59 times he has rested", ROOM + "bass 0 0 0;rests 1;dreams night=59 and 98<sleep;",
            t -> t.is(40, () -> t.x.toPray(0, 60)));
        B.test(28, "he alone prays", ROOM + "bass 0 0 0;bass 0 0 0;dreams 49<sleep;", t -> {
            t.is(50, () -> t.x.toPray(1, 1));
            t.is(0, () -> t.x.up(1, 0));
        });
    }

    private static void needless() {
        for (int nights : NOT_0_TO_60) {
            B.test(29, "IllegalArgumentException: not 0 to 60, " + nights, PLAIN, t -> t.bad(() -> t.x.needless(nights)));
        }
        String three = ROOM + "bass 0 0 0;bass 0 0 0;tenor 0 0 0;";
        B.test(29, "without MONKS none", t -> t.is(0, () -> t.x.needless(60)));
        B.test(29, "in 0 NIGHTS all", three + "dreams 1;", t -> t.is(7, () -> t.x.needless(0)));
        B.test(29, "in 1 NIGHT those whose VOICE another one has", three + "dreams 1;", t -> t.is(3, () -> t.x.needless(1)));
        B.test(29, "in 60 NIGHTS the 60th counts", three + "dreams night=59;", t -> {
            t.is(3, () -> t.x.needless(60));
            t.is(7, () -> t.x.needless(59));
        });
        B.test(29, "none is FULL anyway: all", three + "dreams 0;", t -> t.is(7, () -> t.x.needless(60)));
        B.test(29, "who is TIED is not one of them", three + "dreams 0;", t -> {
            t.x.tie(1, true);
            t.is(5, () -> t.x.needless(0));
            t.is(5, () -> t.x.needless(60));
        });
        B.test(29, "all are TIED: none", three + "dreams 1;", t -> {
            for (int i = 0; i < 3; i++) {
                t.x.tie(i, true);
            }
            t.is(0, () -> t.x.needless(0));
        });
        B.test(29, "no fewer, but more: by one who would come and disturb",
            "room 1 1 1;room 1 1 1;bass 0 0 0;bass 0 0 1;dreams room=0 and night=0 or room and met=0;",
            t -> t.is(3, () -> t.x.needless(2)));
    }

    private static void psalm() {
        for (int nights : NOT_0_TO_60) {
            B.test(30, "IllegalArgumentException: not 0 to 60, " + nights, PLAIN, t -> t.bad(() -> t.x.psalm(nights)));
        }
        B.test(30, "NONE: in 0 NIGHTS", ROOM + ALWAYS, t -> t.is(-1, () -> t.x.psalm(0)));
        B.test(30, "NONE: nobody sings", NOBODY, t -> t.is(-1, () -> t.x.psalm(60)));
        B.test(30, "NONE: without MONKS", t -> t.is(-1, () -> t.x.psalm(60)));
        B.test(30, "VERSE 0", "room 0 0 0;" + ALWAYS, t -> t.is(0, () -> t.x.psalm(1)));
        B.test(30, "VERSE 99", "room 99 0 0;" + ALWAYS, t -> t.is(99, () -> t.x.psalm(60)));
        B.test(30, "eight sing, each one counts", "room 9 0 0;room 3 1 1;" + "bass 0 0 0;bass 0 0 1;".repeat(3)
            + "bass 0 0 0;bass 0 0 0;dreams 1;", t -> t.is(9, () -> t.x.psalm(60)));
        B.test(30, "of like ones the least", "room 9 0 0;room 3 1 1;bass 50 0 0;bass 50 0 1;", t -> t.is(3, () -> t.x.psalm(1)));
        B.test(30, "by each MONK counted", "room 9 0 0;room 3 1 1;bass 50 0 0;bass 50 0 1;bass 50 0 0;",
            t -> t.is(9, () -> t.x.psalm(1)));
        B.test(30, "a VERSE of two ROOMS is one", "room 9 0 0;room 3 1 1;room 9 2 2;bass 50 0 0;bass 50 0 1;bass 50 0 2;",
            t -> t.is(9, () -> t.x.psalm(1)));
        B.test(30, "in 60 NIGHTS the 60th counts: 31 times 9, and 30 times 1",
            "room 1 0 0;room 9 1 1;bass 0 0 0;bass 0 0 1;dreams room=0 and night<30 or room and 28<night;", t -> {
                t.is(9, () -> t.x.psalm(60));
                t.is(1, () -> t.x.psalm(59));
            });
    }

    /** Eight monks in all rooms of the ring but the first. */
    private static String eightApart() {
        StringBuilder house = new StringBuilder(RING);
        for (int i = 1; i <= 8; i++) {
            house.append("bass 0 0 ").append(i).append(";");
        }
        return house.toString();
    }

    private static void spread() {
        for (int nights : NOT_0_TO_60) {
            B.test(31, "IllegalArgumentException: not 0 to 60, " + nights, PLAIN, t -> t.bad(() -> t.x.spread(nights)));
        }
        B.test(31, "without MONKS 0", RING, t -> t.is(0, () -> t.x.spread(60)));
        B.test(31, "all in one", RING + "bass 0 0 8;".repeat(8), t -> t.is(1, () -> t.x.spread(0)));
        B.test(31, "each in another: 8", eightApart() + "dreams 1;", t -> {
            t.is(8, () -> t.x.spread(0));
            t.is(8, () -> t.x.spread(60));
        });
        B.test(31, "behind 60 NIGHTS, not 59", "room 1 1 1;room 1 1 1;bass 0 0 0;bass 0 0 1;dreams night=59;", t -> {
            t.is(1, () -> t.x.spread(60));
            t.is(2, () -> t.x.spread(59));
        });
    }

    private static void silent() {
        B.test(32, "without MONKS the first", t -> t.is(1, () -> t.x.silent()));
        B.test(32, "the first", NOBODY, t -> t.is(1, () -> t.x.silent()));
        B.test(32, "the 60th", ROOM + "bass 0 0 0;dreams 59-night;", t -> t.is(60, () -> t.x.silent()));
        B.test(32, "NONE: the 61st is too late", ROOM + "bass 0 0 0;dreams 60-night;", t -> t.is(-1, () -> t.x.silent()));
        B.test(32, "NONE: never", ROOM + ALWAYS, t -> t.is(-1, () -> t.x.silent()));
        B.test(32, "one who is UP is enough", ROOM + "bass 0 0 0;tenor 0 0 0;dreams voice and night<5;",
            t -> t.is(6, () -> t.x.silent()));
        B.test(32, "all are TIED", ROOM + ALWAYS, t -> {
            t.x.tie(0, true);
            t.is(1, () -> t.x.silent());
        });
    }

    interface Question {
        void on(DreamMatins x);
    }

    private static void harmless(int promise, Question question) {
        B.test(promise, "a question changes nothing", PLAIN, t -> {
            t.x.hear(1, 7, true);
            t.x.tie(1, true);
            t.x.nights(2);
            t.stays(0, () -> {
                question.on(t.x);
                return 0;
            });
            t.is(1, () -> t.x.undo());
        });
    }

    private static void questionsChangeNothing() {
        harmless(15, x -> x.up(60, 0));
        harmless(16, x -> x.then(0, 60, 0));
        harmless(17, x -> x.full());
        harmless(18, x -> x.meets(0, 1));
        harmless(19, x -> x.often(0, 60));
        harmless(20, x -> x.ring(0, true, 1));
        harmless(21, x -> x.from(0));
        harmless(22, x -> x.meeting(0));
        harmless(23, x -> x.leastFish(-1));
        harmless(24, x -> x.choir());
        harmless(25, x -> x.couples());
        harmless(26, x -> x.lonely(60));
        harmless(27, x -> x.crowd(60));
        harmless(28, x -> x.toPray(0, 60));
        harmless(29, x -> x.needless(60));
        harmless(30, x -> x.psalm(60));
        harmless(31, x -> x.spread(60));
        harmless(32, x -> x.silent());
    }
}
