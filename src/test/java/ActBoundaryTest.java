/** Boundary cases of what is and what is done: promises 5 to 14, and what the terms say of a night and of acts. */
public final class ActBoundaryTest {
    private static final Boundary B = new Boundary(5, 14);
    private static final int LEAST = Integer.MIN_VALUE;
    private static final int MOST = Integer.MAX_VALUE;
    private static final String ROOM = "room 1 0 0;";
    private static final String PLAIN = "room 5 1 0;room 7 0 1;bass 50 0 0;tenor 49 2 0;bass 99 9 1;";
    /** Nine rooms, each leads to itself; eight monks in the last one. */
    private static final String MOST_OF_ALL = "room 99 0 0;room 99 1 1;room 99 2 2;room 99 3 3;room 99 4 4;room 99 5 5;"
        + "room 99 6 6;room 99 7 7;room 98 8 8;" + "treble 99 9 8;".repeat(8);

    public static void main(String[] args) {
        count();
        countAtMost();
        room();
        monk();
        gettingUp();
        nights();
        nightsUntilTheLast();
        sleepOfANight();
        waysOfANight();
        meetingInANight();
        fish();
        pray();
        tie();
        move();
        door();
        undo();
        undoKept();
        B.end();
    }

    private static void count() {
        for (int what : new int[] {-1, 15, LEAST, MOST}) {
            B.test(5, "NoSuchElementException: another what, " + what, PLAIN, t -> t.noSuch(() -> t.x.count(what)));
        }
        B.test(5, "0 at first: who was UP in the NIGHT ahead", PLAIN, t -> t.is(0, () -> t.x.count(5)));
        B.test(5, "just the NIGHT ahead: nobody was UP in it", "room 1 0 0;bass 50 0 0;tires 50;rests 0;", t -> {
            t.x.nights(1);
            t.is(1, () -> t.x.count(5));
            t.x.nights(1);
            t.is(0, () -> t.x.count(5));
        });
        B.test(5, "ALONE: all at first, none without MONKS", PLAIN, t -> {
            t.is(7, () -> t.x.count(7));
            t.is(0, () -> new DreamMatins().count(7));
        });
    }

    private static void countAtMost() {
        B.test(5, "9 ROOMS, 8 MONKS", MOST_OF_ALL, t -> {
            t.is(9, () -> t.x.count(0));
            t.is(8, () -> t.x.count(1));
        });
        B.test(5, "all are UP, all MET, nobody is ALONE", MOST_OF_ALL, t -> {
            t.is(255, () -> t.x.count(7));
            t.x.nights(1);
            t.is(255, () -> t.x.count(5));
            t.is(0, () -> t.x.count(7));
            t.is(28, () -> t.x.count(8));
        });
        B.test(5, "all eight MET, whatever DOORS there are", "room 1 7 7;".repeat(8) + "bass 99 0 0;".repeat(8), t -> {
            t.is(0, () -> t.x.count(8));
            t.x.nights(1);
            t.is(28, () -> t.x.count(8));
        });
        B.test(5, "all are TIED", MOST_OF_ALL, t -> {
            for (int i = 0; i < 8; i++) {
                t.x.tie(i, true);
            }
            t.is(255, () -> t.x.count(6));
        });
        B.test(5, "NIGHT 999", t -> {
            t.times(49, () -> t.x.nights(20));
            t.x.nights(19);
            t.is(999, () -> t.x.count(4));
        });
        B.test(5, "HEARD 8", t -> {
            t.times(9, () -> t.x.hear(1, 1, true));
            t.is(8, () -> t.x.count(10));
        });
        B.test(5, "a tape of 700", t -> {
            t.times(36, () -> t.x.feed(0, 0, 0, 0, 0));
            t.is(700, () -> t.x.count(11));
        });
        B.test(5, "STATUS 0, 1, 2 each by itself", PLAIN, t -> {
            Check.read(t.x, "x");
            t.times(2, () -> t.x.nights(0));
            t.times(3, () -> t.x.hear(0, 0, true));
            t.is(1, () -> t.x.count(12));
            t.is(2, () -> t.x.count(13));
            t.is(3, () -> t.x.count(14));
        });
    }

    private static void room() {
        for (int room : new int[] {-1, 2, 9, LEAST, MOST}) {
            B.test(6, "NoSuchElementException: no such ROOM, " + room, PLAIN, t -> t.noSuch(() -> t.x.room(room, 0)));
        }
        for (int what : new int[] {-1, 4, LEAST, MOST}) {
            B.test(6, "NoSuchElementException: what, " + what, PLAIN, t -> t.noSuch(() -> t.x.room(0, what)));
        }
        B.test(6, "the last one of nine", MOST_OF_ALL, t -> {
            long[] due = {98, 8, 8, 255};
            for (int i = 0; i < 4; i++) {
                int what = i;
                t.is(due[what], () -> t.x.room(8, what));
            }
            t.noSuch(() -> t.x.room(9, 0));
        });
        B.test(6, "nobody is there", MOST_OF_ALL, t -> t.is(0, () -> t.x.room(0, 3)));
        B.test(6, "who is TIED is there, too", PLAIN, t -> {
            t.x.tie(0, true);
            t.is(3, () -> t.x.room(0, 3));
        });
    }

    private static void monk() {
        for (int monk : new int[] {-1, 3, 8, LEAST, MOST}) {
            B.test(7, "NoSuchElementException: no such MONK, " + monk, PLAIN, t -> t.noSuch(() -> t.x.monk(monk, 0)));
        }
        for (int what : new int[] {-1, 6, LEAST, MOST}) {
            B.test(7, "NoSuchElementException: what, " + what, PLAIN, t -> t.noSuch(() -> t.x.monk(0, what)));
        }
        B.test(7, "the last one of eight", MOST_OF_ALL, t -> {
            long[] due = {3, 99, 9, 8, 0, 1};
            for (int i = 0; i < 6; i++) {
                int what = i;
                t.is(due[what], () -> t.x.monk(7, what));
            }
            t.noSuch(() -> t.x.monk(8, 0));
        });
        B.test(7, "whom he MET: all but himself", MOST_OF_ALL, t -> {
            t.x.nights(1);
            t.is(127, () -> t.x.monk(7, 4));
            t.is(254, () -> t.x.monk(0, 4));
        });
    }

    private static void gettingUp() {
        B.test(7, "UP without DREAMS if SLEEP is 50", ROOM + "bass 50 0 0;", t -> t.is(1, () -> t.x.monk(0, 5)));
        B.test(7, "not UP without DREAMS if SLEEP is 49", ROOM + "bass 49 0 0;", t -> t.is(0, () -> t.x.monk(0, 5)));
        B.test(7, "UP if DREAMS gives 1", ROOM + "bass 0 0 0;dreams 1;", t -> t.is(1, () -> t.x.monk(0, 5)));
        B.test(7, "not UP if DREAMS gives 0", ROOM + "bass 99 0 0;dreams 0;", t -> t.is(0, () -> t.x.monk(0, 5)));
        B.test(7, "not UP if DREAMS gives less", ROOM + "bass 99 0 0;dreams 0-1;", t -> t.is(0, () -> t.x.monk(0, 5)));
        B.test(7, "not UP who is TIED, UP who is let loose", ROOM + "bass 99 0 0;", t -> {
            t.x.tie(0, true);
            t.is(0, () -> t.x.monk(0, 5));
            t.x.tie(0, false);
            t.is(1, () -> t.x.monk(0, 5));
        });
        B.test(7, "not UP who is TIED, whatever DREAMS gives", ROOM + "bass 99 0 0;dreams 1;", t -> {
            t.x.tie(0, true);
            t.is(0, () -> t.x.monk(0, 5));
        });
    }

    private static void nights() {
        for (int many : new int[] {0, 21, -1, LEAST, MOST}) {
            B.test(8, "NONE, STATUS 1: not 1 to 20, " + many, PLAIN, t -> {
                t.x.nights(1);
                t.refused(1, () -> t.x.nights(many));
            });
        }
        B.test(8, "1", PLAIN, t -> t.is(1, () -> t.x.nights(1)));
        B.test(8, "20", PLAIN, t -> t.is(20, () -> t.x.nights(20)));
        B.test(8, "20 at once are as 20 one by one", PLAIN, t -> {
            DreamMatins other = Check.with(PLAIN);
            t.x.nights(20);
            t.times(20, () -> other.nights(1));
            for (int i = 0; i < 18; i++) {
                int monk = i / 6;
                int what = i % 6;
                t.is(other.monk(monk, what), () -> t.x.monk(monk, what));
            }
        });
        B.test(8, "without MONKS they go by, too", t -> {
            t.is(20, () -> t.x.nights(20));
            t.is(1, () -> t.x.count(9));
        });
    }

    private static void nightsUntilTheLast() {
        B.test(8, "999 is not above 999: by 20", ROOM + "bass 50 0 0;", t -> {
            t.times(48, () -> t.x.nights(20));
            t.x.nights(19);
            t.is(999, () -> t.x.nights(20));
        });
        B.test(8, "NONE, STATUS 1: it would be 1000, by 20", ROOM + "bass 50 0 0;", t -> {
            t.times(49, () -> t.x.nights(20));
            t.refused(1, () -> t.x.nights(20));
            t.is(999, () -> t.x.nights(19));
        });
        B.test(8, "NONE, STATUS 1: it would be 1000, by 1", ROOM + "bass 50 0 0;", t -> {
            t.times(49, () -> t.x.nights(20));
            t.x.nights(19);
            t.refused(1, () -> t.x.nights(1));
        });
        B.test(8, "what is undone can go by again", t -> {
            t.times(49, () -> t.x.nights(20));
            t.x.nights(19);
            t.x.undo();
            t.is(999, () -> t.x.nights(19));
        });
        B.test(8, "one can look ahead beyond 999", ROOM + "bass 0 0 0;dreams night=1058;", t -> {
            t.times(49, () -> t.x.nights(20));
            t.x.nights(19);
            t.is(1, () -> t.x.up(60, 0));
            t.is(60, () -> t.x.full());
        });
    }

    /** A monk who is always up, or never, and his sleep behind a night. */
    private static void sleepBehind(String sentence, boolean up, int sleep, String rule, int then) {
        String house = ROOM + "bass " + sleep + " 0 0;" + rule + "dreams " + (up ? 1 : 0) + ";";
        B.test(8, sentence, house, t -> {
            t.x.nights(1);
            t.is(then, () -> t.x.monk(0, 1));
        });
    }

    private static void sleepOfANight() {
        sleepBehind("TIRES less SLEEP", true, 99, "", 79);
        sleepBehind("TIRES less SLEEP: 1 is left", true, 21, "", 1);
        sleepBehind("TIRES less SLEEP: just 0", true, 20, "", 0);
        sleepBehind("not below 0", true, 19, "", 0);
        sleepBehind("not below 0: there was none", true, 0, "tires 50;", 0);
        sleepBehind("TIRES 1", true, 1, "tires 1;", 0);
        sleepBehind("RESTS more SLEEP", false, 0, "", 10);
        sleepBehind("RESTS more SLEEP: just 99", false, 89, "", 99);
        sleepBehind("to 99 at most", false, 90, "", 99);
        sleepBehind("to 99 at most: it was so", false, 99, "rests 50;", 99);
        sleepBehind("RESTS 0", false, 42, "rests 0;", 42);
        sleepBehind("RESTS 50", false, 0, "rests 50;", 50);
        B.test(8, "who is TIED rests, too", ROOM + "bass 60 0 0;", t -> {
            t.x.tie(0, true);
            t.x.nights(1);
            t.is(70, () -> t.x.monk(0, 1));
        });
    }

    /** By the door to room 1, by the wet one to room 2. */
    private static void roomBehind(String sentence, int sleep, int fish, int room, int fishThen) {
        String house = "room 1 1 2;room 1 1 1;room 1 2 2;bass " + sleep + " " + fish + " 0;";
        B.test(8, sentence, house, t -> {
            t.x.nights(1);
            t.is(room, () -> t.x.monk(0, 3));
            t.is(fishThen, () -> t.x.monk(0, 2));
        });
    }

    private static void waysOfANight() {
        roomBehind("by the DOOR without FISH, which isn't below 0 then", 50, 0, 1, 0);
        roomBehind("by the WET DOOR with the last FISH", 50, 1, 2, 0);
        roomBehind("by the WET DOOR with 9 FISH", 50, 9, 2, 8);
        roomBehind("who isn't UP stays", 49, 0, 0, 0);
        roomBehind("who isn't UP stays, and has a FISH less, too", 49, 1, 0, 0);
        B.test(8, "who is TIED stays, and has a FISH less, too", "room 1 1 1;room 1 0 0;bass 99 2 0;", t -> {
            t.x.tie(0, true);
            t.x.nights(1);
            t.is(0, () -> t.x.monk(0, 3));
            t.is(1, () -> t.x.monk(0, 2));
        });
        String comers = "room 1 1 1;room 1 1 1;bass 0 0 0;bass 0 0 0;bass 0 0 1;dreams met;";
        B.test(8, "all as they are when the NIGHT begins: who comes then isn't there yet", comers, t -> {
            t.x.nights(1);
            t.is(3, () -> t.x.count(5));
            t.is(7, () -> t.x.room(1, 3));
        });
        String leavers = "room 1 1 1;room 1 1 1;bass 0 0 0;bass 0 0 0;dreams met;";
        B.test(8, "all as they are when the NIGHT begins: who goes then is there still", leavers, t -> {
            t.x.nights(1);
            t.is(3, () -> t.x.count(5));
        });
    }

    private static void meetingInANight() {
        B.test(8, "MET: just those who are UP", ROOM + "bass 50 0 0;bass 49 0 0;bass 50 0 0;", t -> {
            t.x.nights(1);
            t.is(4, () -> t.x.monk(0, 4));
            t.is(0, () -> t.x.monk(1, 4));
            t.is(1, () -> t.x.monk(2, 4));
        });
        B.test(8, "MET: just those in one ROOM", "room 1 1 1;room 1 1 1;bass 50 0 0;bass 50 0 1;", t -> {
            t.x.nights(1);
            t.is(3, () -> t.x.room(1, 3));
            t.is(3, () -> t.x.count(7));
        });
        B.test(8, "MET from then on, wherever they are", "room 1 0 0;room 1 1 1;bass 50 0 0;bass 50 0 0;", t -> {
            t.x.nights(1);
            t.x.move(0, 1);
            t.x.nights(20);
            t.is(2, () -> t.x.monk(0, 4));
            t.is(1, () -> t.x.monk(1, 4));
        });
        B.test(8, "two ROOMS of one VERSE are two", "room 1 0 0;room 1 1 1;bass 50 0 0;bass 50 0 1;", t -> {
            t.x.nights(1);
            t.is(0, () -> t.x.count(8));
        });
    }

    private static void fish() {
        for (int more : new int[] {0, 10, -1, LEAST, MOST}) {
            B.test(9, "NONE, STATUS 1: not 1 to 9, " + more, PLAIN, t -> t.refused(1, () -> t.x.fish(0, more)));
        }
        for (int monk : new int[] {-1, 3, LEAST, MOST}) {
            B.test(9, "NoSuchElementException, " + monk, PLAIN, t -> t.noSuch(() -> t.x.fish(monk, 1)));
            B.test(9, "NoSuchElementException, whatever more is, " + monk, PLAIN, t -> t.noSuch(() -> t.x.fish(monk, 0)));
        }
        B.test(9, "1 more", PLAIN, t -> t.is(3, () -> t.x.fish(1, 1)));
        B.test(9, "9 more", PLAIN, t -> t.is(9, () -> t.x.fish(0, 9)));
        B.test(9, "just 9", PLAIN, t -> t.is(9, () -> t.x.fish(1, 7)));
        B.test(9, "9 at most", PLAIN, t -> {
            t.is(9, () -> t.x.fish(1, 8));
            t.is(9, () -> t.x.monk(1, 2));
        });
        B.test(9, "9 at most: he had 9, and it is an ACT", PLAIN, t -> {
            t.is(9, () -> t.x.fish(2, 9));
            t.is(1, () -> t.x.count(9));
            t.is(0, () -> t.x.count(13));
        });
    }

    private static void pray() {
        for (int sleep : new int[] {-1, 100, LEAST, MOST}) {
            B.test(10, "NONE, STATUS 1: not 0 to 99, " + sleep, PLAIN, t -> t.refused(1, () -> t.x.pray(0, sleep)));
        }
        for (int monk : new int[] {-1, 3, LEAST, MOST}) {
            B.test(10, "NoSuchElementException, " + monk, PLAIN, t -> t.noSuch(() -> t.x.pray(monk, 1)));
            B.test(10, "NoSuchElementException, whatever sleep is, " + monk, PLAIN,
                t -> t.noSuch(() -> t.x.pray(monk, 100)));
        }
        for (int sleep : new int[] {0, 99}) {
            B.test(10, "SLEEP as it was, then " + sleep, PLAIN, t -> {
                t.is(50, () -> t.x.pray(0, sleep));
                t.is(sleep, () -> t.x.monk(0, 1));
            });
        }
        B.test(10, "the same SLEEP is 0 to 99, too", PLAIN, t -> {
            t.is(50, () -> t.x.pray(0, 50));
            t.is(1, () -> t.x.count(9));
            t.is(0, () -> t.x.count(13));
        });
    }

    private static void tie() {
        B.test(11, "false, STATUS 1: he is TIED already", PLAIN, t -> {
            t.is(true, () -> t.x.tie(0, true));
            t.refusedWith(0, 1, () -> t.x.tie(0, true) ? 1 : 0);
        });
        B.test(11, "false, STATUS 1: he is loose already", PLAIN,
            t -> t.refusedWith(0, 1, () -> t.x.tie(0, false) ? 1 : 0));
        B.test(11, "false, STATUS 1: he was let loose already", PLAIN, t -> {
            t.is(true, () -> t.x.tie(0, true));
            t.is(true, () -> t.x.tie(0, false));
            t.refusedWith(0, 1, () -> t.x.tie(0, false) ? 1 : 0);
        });
        for (int monk : new int[] {-1, 3, 32, LEAST, MOST}) {
            B.test(11, "NoSuchElementException, " + monk, PLAIN, t -> t.noSuch(() -> t.x.tie(monk, true) ? 1 : 0));
        }
        B.test(11, "the others stay as they are", PLAIN, t -> {
            t.is(true, () -> t.x.tie(2, true));
            t.is(true, () -> t.x.tie(0, true));
            t.is(true, () -> t.x.tie(2, false));
            t.is(1, () -> t.x.count(6));
        });
        B.test(11, "TIED over NIGHTS", PLAIN, t -> {
            t.x.tie(2, true);
            t.x.nights(20);
            t.is(4, () -> t.x.count(6));
        });
    }

    private static void move() {
        B.test(12, "NONE, STATUS 1: he is there", PLAIN, t -> t.refused(1, () -> t.x.move(2, 1)));
        B.test(12, "the ROOM as it was", PLAIN, t -> {
            t.is(1, () -> t.x.move(2, 0));
            t.is(0, () -> t.x.monk(2, 3));
        });
        for (int monk : new int[] {-1, 3, LEAST, MOST}) {
            B.test(12, "NoSuchElementException: no such MONK, " + monk, PLAIN, t -> t.noSuch(() -> t.x.move(monk, 0)));
        }
        for (int room : new int[] {-1, 2, LEAST, MOST}) {
            B.test(12, "NoSuchElementException: no such ROOM, " + room, PLAIN, t -> t.noSuch(() -> t.x.move(0, room)));
        }
        B.test(12, "NoSuchElementException: neither", PLAIN, t -> t.noSuch(() -> t.x.move(3, 2)));
        B.test(12, "the last MONK to the first ROOM, and to the last", MOST_OF_ALL, t -> {
            t.is(8, () -> t.x.move(7, 0));
            t.is(0, () -> t.x.move(7, 8));
            t.is(-1, () -> t.x.move(7, 8));
        });
        B.test(12, "who is TIED is MOVED, too", PLAIN, t -> {
            t.x.tie(0, true);
            t.is(0, () -> t.x.move(0, 1));
        });
    }

    private static void door() {
        B.test(13, "NONE, STATUS 1: the DOOR leads there", PLAIN, t -> t.refused(1, () -> t.x.door(0, false, 1)));
        B.test(13, "NONE, STATUS 1: the WET DOOR leads there", PLAIN, t -> t.refused(1, () -> t.x.door(0, true, 0)));
        B.test(13, "the ROOM as it was: a DOOR, which may lead to its own ROOM", PLAIN, t -> {
            t.is(1, () -> t.x.door(0, false, 0));
            t.is(0, () -> t.x.room(0, 1));
            t.is(0, () -> t.x.room(0, 2));
            t.is(0, () -> t.x.room(1, 1));
        });
        B.test(13, "the ROOM as it was: a WET DOOR", PLAIN, t -> {
            t.is(1, () -> t.x.door(1, true, 0));
            t.is(0, () -> t.x.room(1, 2));
            t.is(0, () -> t.x.room(1, 1));
            t.is(0, () -> t.x.room(0, 2));
        });
        for (int room : new int[] {-1, 2, LEAST, MOST}) {
            B.test(13, "NoSuchElementException: no such ROOM, " + room, PLAIN,
                t -> t.noSuch(() -> t.x.door(room, false, 0)));
            B.test(13, "NoSuchElementException: no such ROOM to lead to, " + room, PLAIN,
                t -> t.noSuch(() -> t.x.door(0, true, room)));
        }
        B.test(13, "NoSuchElementException: neither", PLAIN, t -> t.noSuch(() -> t.x.door(2, true, 2)));
        B.test(13, "the last ROOM", MOST_OF_ALL, t -> {
            t.is(8, () -> t.x.door(8, true, 0));
            t.is(0, () -> t.x.room(8, 2));
            t.is(8, () -> t.x.room(8, 1));
        });
    }

    private static void undo() {
        B.test(14, "NONE: there is none, and that is no STATUS", PLAIN, t -> t.stays(-1, () -> t.x.undo()));
        B.test(14, "the only one: 0 are left, and then there is none", PLAIN, t -> {
            t.x.pray(0, 3);
            t.is(0, () -> t.x.undo());
            t.is(50, () -> t.x.monk(0, 1));
            t.stays(-1, () -> t.x.undo());
        });
        B.test(14, "20 NIGHTS are one ACT", PLAIN, t -> {
            t.x.nights(20);
            t.is(0, () -> t.x.undo());
            t.is(0, () -> t.x.count(4));
            t.is(0, () -> t.x.count(5));
            t.is(7, () -> t.x.count(7));
        });
        B.test(14, "what was refused is no ACT", PLAIN, t -> {
            t.x.nights(0);
            t.x.fish(0, 0);
            t.x.pray(0, 100);
            t.x.tie(0, false);
            t.x.move(0, 0);
            t.x.door(0, false, 1);
            t.is(0, () -> t.x.count(9));
            t.is(6, () -> t.x.count(13));
        });
        B.test(14, "STATUS is not UNDONE", PLAIN, t -> {
            t.x.pray(0, 3);
            t.x.pray(0, 100);
            t.x.undo();
            t.is(1, () -> t.x.count(13));
        });
        B.test(14, "what is HEARD, and forgotten, is no ACT", PLAIN, t -> {
            t.x.hear(1, 1, true);
            t.x.forget();
            t.x.hear(1, 1, true);
            t.stays(-1, () -> t.x.undo());
        });
        B.test(14, "the last one first", PLAIN, t -> {
            t.x.pray(0, 1);
            t.x.pray(0, 2);
            t.x.pray(0, 3);
            t.is(2, () -> t.x.undo());
            t.is(2, () -> t.x.monk(0, 1));
            t.is(1, () -> t.x.undo());
            t.is(1, () -> t.x.monk(0, 1));
        });
        undoEach();
    }

    interface Act {
        void on(DreamMatins x);
    }

    private static void undone(String kind, Act act) {
        B.test(14, "UNDONE: " + kind, PLAIN, t -> {
            t.x.nights(3);
            t.stays(1, () -> {
                act.on(t.x);
                return t.x.undo();
            });
        });
    }

    private static void undoEach() {
        undone("NIGHTS", x -> x.nights(7));
        undone("FISH", x -> x.fish(0, 9));
        undone("he PRAYS", x -> x.pray(0, 99));
        undone("he is TIED", x -> x.tie(2, true));
        undone("he is MOVED", x -> x.move(0, 1 - x.monk(0, 3)));
        undone("a DOOR", x -> x.door(1, false, 1));
        undone("a WET DOOR", x -> x.door(1, true, 0));
        B.test(14, "UNDONE: he is let loose", PLAIN, t -> {
            t.x.tie(1, true);
            t.x.tie(1, false);
            t.is(1, () -> t.x.undo());
            t.is(2, () -> t.x.count(6));
        });
    }

    private static void undoKept() {
        B.test(14, "40 are kept", PLAIN, t -> {
            praysFromTo(t, 1, 40);
            t.is(40, () -> t.x.count(9));
            t.times(39, () -> t.x.undo());
            t.is(0, () -> t.x.undo());
            t.is(50, () -> t.x.monk(0, 1));
            t.is(-1, () -> t.x.undo());
        });
        B.test(14, "at most 40 are kept, the latest ones", PLAIN, t -> {
            praysFromTo(t, 1, 41);
            t.is(40, () -> t.x.count(9));
            t.is(39, () -> t.x.undo());
            t.times(39, () -> t.x.undo());
            t.is(1, () -> t.x.monk(0, 1));
            t.stays(-1, () -> t.x.undo());
        });
        B.test(14, "at most 40 are kept, of 99 the latest ones", PLAIN, t -> {
            praysFromTo(t, 1, 99);
            t.is(40, () -> t.x.count(9));
            for (int left = 39; left >= 0; left--) {
                int due = left;
                t.is(due, () -> t.x.undo());
                t.is(59 + due, () -> t.x.monk(0, 1));
            }
        });
        B.test(14, "full, then fewer, then full again", PLAIN, t -> {
            praysFromTo(t, 1, 50);
            t.times(30, () -> t.x.undo());
            t.is(20, () -> t.x.monk(0, 1));
            praysFromTo(t, 60, 95);
            t.is(40, () -> t.x.count(9));
            t.times(36, () -> t.x.undo());
            t.is(20, () -> t.x.monk(0, 1));
            t.times(4, () -> t.x.undo());
            t.is(16, () -> t.x.monk(0, 1));
            t.is(-1, () -> t.x.undo());
        });
        B.test(14, "the 40 of another HOUSE are gone, and 40 are kept again", PLAIN, t -> {
            praysFromTo(t, 1, 55);
            Check.read(t.x, PLAIN);
            praysFromTo(t, 1, 42);
            t.times(40, () -> t.x.undo());
            t.is(2, () -> t.x.monk(0, 1));
            t.is(-1, () -> t.x.undo());
        });
    }

    private static void praysFromTo(Boundary.Case t, int from, int to) {
        int[] sleep = {from};
        t.times(to - from + 1, () -> t.x.pray(0, sleep[0]++));
    }
}
