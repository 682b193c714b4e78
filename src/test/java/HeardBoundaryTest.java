/** Boundary cases of what is heard, the game, the years and the image: promises 33 to 40. */
public final class HeardBoundaryTest {
    private static final Boundary B = new Boundary(33, 40);
    private static final int LEAST = Integer.MIN_VALUE;
    private static final int MOST = Integer.MAX_VALUE;
    private static final String ROOM = "room 1 0 0;";
    private static final String PLAIN = "room 5 1 0;room 7 0 1;bass 50 0 0;tenor 49 2 0;bass 99 9 1;";
    /** Up with three fish or more; a fish leads from 5 to 7. */
    private static final String EATERS = "room 5 0 1;room 7 1 1;bass 0 0 0;tenor 0 1 0;dreams 2<fish;";
    /** Fish in the first night tell what is sung in a late one. */
    private static final String LATE = "room 5 0 1;room 7 1 1;bass 0 1 0;dreams night=0 or night=";

    public static void main(String[] args) {
        hear();
        hearFull();
        eaten();
        eatenByWhatIsHeard();
        eatenFirst();
        listen();
        forget();
        game();
        gameGains();
        gameNights();
        years();
        yearsBySeed();
        yearsEvents();
        image();
        restore();
        restoreBringsBack();
        B.end();
    }

    private static void hear() {
        for (int k : new int[] {LEAST, -1, 0, 21, MOST}) {
            B.test(33, "NONE, STATUS 2: not 1 to 20, " + k, PLAIN, t -> t.refused(2, () -> t.x.hear(k, 5, true)));
        }
        for (int verse : new int[] {LEAST, -1, 100, MOST}) {
            B.test(33, "NONE, STATUS 2: not 0 to 99, " + verse, PLAIN, t -> t.refused(2, () -> t.x.hear(1, verse, false)));
        }
        B.test(33, "neither: one STATUS", PLAIN, t -> t.refused(2, () -> t.x.hear(0, 100, true)));
        B.test(33, "the first NIGHT, VERSE 0", PLAIN, t -> t.is(1, () -> t.x.hear(1, 0, false)));
        B.test(33, "the 20th NIGHT, VERSE 99", PLAIN, t -> t.is(1, () -> t.x.hear(20, 99, true)));
        B.test(33, "without a HOUSE, too", t -> t.is(1, () -> t.x.hear(20, 99, true)));
        B.test(33, "the same again is more", PLAIN, t -> {
            t.is(1, () -> t.x.hear(1, 5, true));
            t.is(2, () -> t.x.hear(1, 5, true));
        });
    }

    private static void hearFull() {
        B.test(33, "8", PLAIN, t -> {
            t.times(7, () -> t.x.hear(1, 5, true));
            t.is(8, () -> t.x.hear(1, 5, true));
            t.is(8, () -> t.x.count(10));
            t.is(0, () -> t.x.count(14));
        });
        B.test(33, "NONE, STATUS 2: there are 8", PLAIN, t -> {
            t.times(8, () -> t.x.hear(1, 5, true));
            t.refused(2, () -> t.x.hear(1, 99, true));
        });
        B.test(33, "the 8th counts, the 9th doesn't", PLAIN, t -> {
            t.times(7, () -> t.x.hear(1, 5, true));
            t.is(1, () -> t.x.eaten(2));
            t.x.hear(1, 99, true);
            t.is(0, () -> t.x.eaten(2));
            t.x.forget();
            t.times(8, () -> t.x.hear(1, 5, true));
            t.x.hear(1, 99, true);
            t.is(1, () -> t.x.eaten(2));
        });
        B.test(33, "there were 8, which are forgotten", PLAIN, t -> {
            t.times(8, () -> t.x.hear(1, 5, true));
            t.x.forget();
            t.is(1, () -> t.x.hear(1, 5, true));
        });
    }

    /** How many, the first, whether without. */
    private static void eats(Boundary.Case t, int many, int first, int without) {
        t.is(many, () -> t.x.eaten(0));
        t.is(first, () -> t.x.eaten(1));
        t.is(without, () -> t.x.eaten(2));
    }

    private static void eaten() {
        for (int what : new int[] {LEAST, -1, 3, MOST}) {
            B.test(34, "NoSuchElementException: another what, " + what, PLAIN, t -> t.noSuch(() -> t.x.eaten(what)));
        }
        B.test(34, "without MONKS none, and nothing HEARD is so", t -> eats(t, 0, -1, 1));
        B.test(34, "without MONKS nothing is sung", t -> {
            t.x.hear(20, 5, false);
            eats(t, 0, -1, 1);
            t.x.hear(20, 5, true);
            eats(t, 0, -1, 0);
        });
        B.test(34, "nothing HEARD: nine other numbers for each MONK", EATERS, t -> eats(t, 18, 1, 1));
        B.test(34, "nothing HEARD: eight MONKS", ROOM + "bass 0 9 0;".repeat(8), t -> eats(t, 72, 0, 1));
        B.test(34, "another number than he has: he has 0", ROOM + "bass 0 0 0;", t -> eats(t, 9, 1, 1));
        B.test(34, "another number than he has: he has 9", ROOM + "bass 0 9 0;", t -> eats(t, 9, 0, 1));
        B.test(34, "another number than he has: just that would do", ROOM + "bass 0 4 0;dreams fish=4;", t -> {
            t.x.hear(1, 1, true);
            eats(t, 0, -1, 1);
        });
        B.test(34, "another number than he has: so for each MONK", "room 5 0 0;bass 0 0 0;tenor 0 4 0;dreams voice and fish=4;",
            t -> {
                t.x.hear(1, 5, true);
                eats(t, 9, 1, 1);
            });
        B.test(34, "a question changes nothing", EATERS, t -> {
            t.x.hear(2, 7, true);
            t.stays(12, () -> t.x.eaten(0));
            t.stays(4, () -> t.x.eaten(1));
            t.stays(0, () -> t.x.eaten(2));
        });
    }

    private static void eatenByWhatIsHeard() {
        B.test(34, "a VERSE that no ROOM has wasn't sung", EATERS, t -> {
            t.x.hear(1, 99, false);
            eats(t, 18, 1, 1);
        });
        B.test(34, "NONE: a VERSE that no ROOM has was sung", EATERS, t -> {
            t.x.hear(1, 99, true);
            eats(t, 0, -1, 0);
        });
        B.test(34, "all HEARD, not one of them", EATERS, t -> {
            t.x.hear(1, 5, true);
            eats(t, 14, 3, 0);
            t.x.hear(2, 7, true);
            eats(t, 12, 4, 0);
            t.x.hear(2, 7, false);
            eats(t, 0, -1, 0);
        });
        B.test(34, "VERSE 0 is sung by him who sings it, not by who is asleep", "room 0 0 0;bass 0 0 0;dreams fish;", t -> {
            t.x.hear(1, 0, false);
            eats(t, 0, -1, 1);
            t.x.forget();
            t.x.hear(1, 0, true);
            eats(t, 9, 1, 0);
        });
        B.test(34, "by somebody: one is enough", "room 5 0 0;bass 0 9 0;bass 0 0 0;dreams fish=9;", t -> {
            t.x.hear(1, 5, true);
            eats(t, 9, 11, 1);
        });
        B.test(34, "the 20th NIGHT: was", LATE + "19;", t -> {
            t.x.hear(20, 7, true);
            eats(t, 8, 2, 1);
        });
        B.test(34, "the 20th NIGHT: wasn't", LATE + "19;", t -> {
            t.x.hear(20, 7, false);
            eats(t, 1, 0, 0);
        });
        B.test(34, "from now: NIGHTS that have gone by are behind", EATERS, t -> {
            t.x.fish(0, 4);
            t.x.hear(1, 5, true);
            t.is(1, () -> t.x.eaten(2));
            t.x.nights(1);
            t.is(0, () -> t.x.eaten(2));
        });
    }

    private static void eatenFirst() {
        B.test(34, "the first: MONK 0, FISH 0", "room 5 0 0;bass 0 1 0;dreams 1;", t -> t.is(0, () -> t.x.eaten(1)));
        B.test(34, "the first: MONK 7, FISH 9", "room 5 0 0;room 7 1 1;" + "bass 0 0 0;".repeat(7)
            + "bass 0 0 1;dreams 8<fish;", t -> {
                t.x.hear(1, 7, true);
                eats(t, 1, 79, 0);
            });
        B.test(34, "the first by the MONK, then by FISH", "room 5 0 0;room 7 1 1;bass 0 0 0;bass 0 9 1;bass 0 9 1;dreams fish;",
            t -> {
                t.x.hear(9, 5, false);
                t.x.hear(9, 7, true);
                eats(t, 8 + 9 + 9, 1, 1);
                t.x.hear(1, 5, true);
                eats(t, 8, 1, 0);
            });
    }

    private static void listens(Boundary.Case t, int night, int many) {
        t.is(night, () -> t.x.listen(0));
        t.is(many, () -> t.x.listen(1));
    }

    private static void listen() {
        for (int what : new int[] {LEAST, -1, 2, MOST}) {
            B.test(35, "NoSuchElementException: another what, " + what, PLAIN, t -> t.noSuch(() -> t.x.listen(what)));
        }
        B.test(35, "none without any: no MONKS", t -> listens(t, -1, 0));
        B.test(35, "none without any: nobody could have eaten so", EATERS, t -> {
            t.x.hear(1, 99, true);
            listens(t, -1, 0);
        });
        B.test(35, "all alike: the first NIGHT, 1", ROOM + "bass 0 0 0;dreams 0;", t -> listens(t, 1, 1));
        B.test(35, "just one: the first NIGHT, 1", LATE + "19;", t -> {
            t.x.hear(20, 7, false);
            listens(t, 1, 1);
        });
        B.test(35, "the 20th NIGHT", LATE + "19;", t -> listens(t, 20, 2));
        B.test(35, "the 20th NIGHT from now, whatever was HEARD", LATE + "19;", t -> {
            t.x.hear(1, 5, true);
            t.x.hear(3, 5, false);
            listens(t, 20, 2);
        });
        B.test(35, "the 21st is too late", LATE + "20;", t -> listens(t, 1, 1));
        B.test(35, "of like ones the first", LATE + "8 or night=11;", t -> listens(t, 9, 2));
        B.test(35, "most unlike: three in a later NIGHT, two in the first",
            "room 5 0 0;room 8 1 1;bass 0 0 0;bass 0 0 1;dreams fish and (room=0 or night);", t -> listens(t, 2, 3));
        B.test(35, "by these, not by what is without", "room 5 0 0;bass 0 0 0;dreams fish;", t -> {
            t.is(2, () -> t.x.listen(0));
            t.x.hear(1, 5, true);
            t.x.hear(9, 5, true);
            listens(t, 1, 1);
        });
        B.test(35, "a question changes nothing", EATERS, t -> {
            t.x.hear(2, 7, true);
            t.stays(3, () -> t.x.listen(0));
            t.stays(2, () -> t.x.listen(1));
        });
    }

    private static void forget() {
        B.test(36, "there is none", PLAIN, t -> t.stays(0, () -> {
            t.x.forget();
            return 0;
        }));
        B.test(36, "all eight", EATERS, t -> {
            t.times(8, () -> t.x.hear(1, 99, true));
            t.x.forget();
            t.is(0, () -> t.x.count(10));
            eats(t, 18, 1, 1);
        });
        B.test(36, "STATUS and ACTS stay", EATERS, t -> {
            t.x.pray(0, 5);
            t.x.hear(0, 0, true);
            t.x.hear(1, 1, true);
            t.x.forget();
            t.is(1, () -> t.x.count(14));
            t.is(1, () -> t.x.count(9));
        });
        B.test(36, "twice", EATERS, t -> {
            t.x.hear(1, 1, true);
            t.x.forget();
            t.x.forget();
            t.is(1, () -> t.x.hear(1, 1, true));
        });
    }

    private static void rests(String sentence, String house, int many, int first) {
        B.test(37, sentence, house, t -> {
            t.stays(many, () -> t.x.game(0, 1, 0));
            t.stays(first, () -> t.x.game(0, 1, 1));
        });
    }

    private static void game() {
        for (int monk : new int[] {LEAST, -1, 3, MOST}) {
            B.test(37, "NoSuchElementException: either one, " + monk, PLAIN, t -> {
                t.noSuch(() -> t.x.game(monk, 0, 0));
                t.noSuch(() -> t.x.game(0, monk, 0));
            });
            B.test(37, "NoSuchElementException ahead: both are one, and there is none such, " + monk, PLAIN,
                t -> t.noSuch(() -> t.x.game(monk, monk, 0)));
        }
        for (int what : new int[] {LEAST, -1, 2, MOST}) {
            B.test(37, "NoSuchElementException: another what, " + what, PLAIN, t -> t.noSuch(() -> t.x.game(0, 1, what)));
            B.test(37, "NoSuchElementException ahead: both are one, another what, " + what, PLAIN,
                t -> t.noSuch(() -> t.x.game(1, 1, what)));
        }
        for (int i = 0; i < 3; i++) {
            int monk = i;
            B.test(37, "IllegalArgumentException: both are one, " + monk, PLAIN, t -> {
                t.bad(() -> t.x.game(monk, monk, 0));
                t.bad(() -> t.x.game(monk, monk, 1));
            });
        }
    }

    private static final String APART = "room 1 0 0;room 1 1 1;bass 0 0 0;tenor 0 0 1;";

    private static void gameGains() {
        rests("loses 1 by FISH: both pray", APART + "dreams 0;", 1, 11);
        rests("loses 1 by FISH, and gains 1 by being UP: all four rest, the first is 0", APART + "dreams fish=3;", 4, 0);
        rests("NONE: one wants to be with the other, who wants to be without him",
            "room 1 2 3;room 1 2 3;room 1 2 2;room 1 3 3;bass 0 0 0;tenor 0 0 1;"
                + "dreams night=0 or voice=0 and met or voice and met=0;", 0, -1);
        rests("SLEEP 99 by praying: UP once without any loss", APART + "tires 50;dreams fish=3 or sleep=99;", 1, 11);
        rests("3 more, no fewer: UP twice by the third", APART + "dreams 1<fish;", 1, 0);
        rests("3 more, not more: UP just once by 3", APART + "dreams 2<fish;", 4, 0);
        rests("9 at most: who has 9 loses by 3 more", "room 1 0 0;room 1 1 1;bass 0 9 0;tenor 0 0 1;dreams 7<fish;", 1, 11);
        rests("10 by the first one's, and the other one's: 1", APART + "dreams voice=0 and 1<fish;", 1, 1);
        rests("10 by the first one's, and the other one's: 10", APART + "dreams voice=1 and 1<fish;", 1, 10);
        String together = "bass 0 0 0;tenor 0 0 0;dreams fish=3;";
        rests("3 more, if both are UP in one ROOM", ROOM + together, 2, 0);
        rests("3 more for each one, not if they are in two of one VERSE", APART + "dreams fish=3;", 4, 0);
        String justThree = ROOM + "bass 0 0 0;tenor 0 0 0;tires 1;rests 0;dreams voice and night=0 or voice=0 and (fish=3 "
            + "or 90<sleep and 0<night and night<4);";
        rests("just 3 more: together once by FISH is as good as three times UP alone", justThree, 2, 1);
        B.test(37, "just 3 more for the other one, too", justThree, t -> {
            t.is(2, () -> t.x.game(1, 0, 0));
            t.is(10, () -> t.x.game(1, 0, 1));
        });
        B.test(37, "who is TIED is never UP", APART + "dreams 1<fish;", t -> {
            t.x.tie(0, true);
            t.x.tie(1, true);
            t.is(11, () -> t.x.game(0, 1, 1));
        });
    }

    /** By fish he comes from room 0 to room 1, and is up there in two nights. */
    private static void gameNights() {
        String house = "room 1 0 1;room 1 1 1;room 1 2 2;bass 0 0 0;tenor 0 0 2;dreams night=0 or room=1 and ";
        rests("the 10th of the next NIGHTS counts", house + "(night=8 or night=9);", 1, 1);
        rests("the 11th doesn't", house + "(night=9 or night=10);", 2, 1);
        B.test(37, "the next 10 NIGHTS, from now on", house.replace("night=0", "night=5") + "(night=13 or night=14);", t -> {
            t.x.nights(5);
            t.is(1, () -> t.x.game(0, 1, 0));
            t.is(1, () -> t.x.game(0, 1, 1));
        });
    }

    private static void years() {
        for (int n : new int[] {LEAST, -1, 61, MOST}) {
            for (int i = 0; i < 3; i++) {
                int what = i;
                B.test(38, "IllegalArgumentException: n is not 0 to 60, " + n + ", what " + what, PLAIN,
                    t -> t.bad(() -> t.x.years(5, n, what)));
            }
        }
        for (int what : new int[] {LEAST, -1, 3, MOST}) {
            B.test(38, "NoSuchElementException, ahead of the other one, " + what, PLAIN, t -> {
                t.noSuch(() -> t.x.years(5, 5, what));
                t.noSuch(() -> t.x.years(5, 61, what));
            });
        }
        B.test(38, "n 0: nothing but who has MET", ROOM + "bass 0 0 0;bass 0 0 0;bass 0 0 0;dreams 1;", t -> {
            t.x.nights(1);
            t.is(0, () -> t.x.years(5, 0, 0));
            t.is(0, () -> t.x.years(5, 0, 1));
            t.is(3, () -> t.x.years(5, 0, 2));
        });
        B.test(38, "n 60: all FULL, all sing", "room 99 0 0;" + "bass 0 0 0;".repeat(8) + "dreams 1;", t -> {
            t.is(60, () -> t.x.years(5, 60, 0));
            t.is(60 * 8 * 99, () -> t.x.years(5, 60, 1));
            t.is(28, () -> t.x.years(5, 60, 2));
        });
        B.test(38, "n 60: the 60th counts, the 61st doesn't", ROOM + "bass 0 0 0;dreams night=59 or night=60;", t -> {
            t.is(1, () -> t.x.years(5, 60, 0));
            t.is(0, () -> t.x.years(5, 59, 0));
        });
        B.test(38, "without MONKS all are FULL, and nothing is sung", t -> {
            t.is(60, () -> t.x.years(LEAST, 60, 0));
            t.is(0, () -> t.x.years(LEAST, 60, 1));
            t.is(0, () -> t.x.years(LEAST, 60, 2));
        });
        B.test(38, "nothing of it stays", PLAIN, t -> {
            t.x.nights(1);
            for (int i = 0; i < 3; i++) {
                int what = i;
                long due = t.x.years(77, 60, what);
                t.stays(due, () -> t.x.years(77, 60, what));
            }
        });
    }

    /** The next seed, without ints that wrap. */
    private static long next(long seed) {
        return Math.floorMod(seed * 1103515245L + 12345L, 1L << 32);
    }

    private static int draw(long seed, int n) {
        return (int) (seed / 65536 % 32768 % n);
    }

    /** Who prays is up just once: so what is sung tells who was drawn, and how often. */
    private static void yearsBySeed() {
        StringBuilder house = new StringBuilder();
        for (int i = 0; i < 7; i++) {
            house.append("room ").append(i * i + 1).append(' ').append(i).append(' ').append(i).append(";bass 0 0 ")
                .append(i).append(';');
        }
        house.append("rests 0;tires 50;dreams sleep=99;");
        for (int seed : new int[] {0, 1, -1, LEAST, MOST, 12345, -987654321}) {
            long lot = Math.floorMod((long) seed, 1L << 32);
            long sung = 0;
            for (int i = 0; i < 60; i++) {
                lot = next(lot);
                int event = draw(lot, 5);
                if (event < 2) {
                    lot = next(lot);
                    int monk = draw(lot, 7);
                    sung += event * (monk * monk + 1);
                }
            }
            long due = sung;
            B.test(38, "a seed that wraps, " + seed, house.toString(), t -> t.is(due, () -> t.x.years(seed, 60, 1)));
        }
    }

    /** A seed by which the first draw of 5 is this one. */
    private static int seedOf(int event) {
        int seed = 0;
        while (draw(next(seed), 5) != event) {
            seed++;
        }
        return seed;
    }

    private static void yearsEvents() {
        int eats = seedOf(0);
        int prays = seedOf(1);
        String one = "room 5 0 0;bass 3 0 0;rests 0;dreams ";
        B.test(38, "0: 2 FISH more, ahead of the NIGHT", one + "fish=2;", t -> t.is(5, () -> t.x.years(eats, 1, 1)));
        B.test(38, "0: SLEEP stays", one + "sleep=3;", t -> t.is(5, () -> t.x.years(eats, 1, 1)));
        B.test(38, "1: SLEEP 99, ahead of the NIGHT", one + "sleep=99;", t -> t.is(5, () -> t.x.years(prays, 1, 1)));
        B.test(38, "1: FISH stay", one + "fish=0;", t -> t.is(5, () -> t.x.years(prays, 1, 1)));
        for (int i = 2; i < 5; i++) {
            int seed = seedOf(i);
            B.test(38, i + ": nothing", one + "fish=0 and sleep=3;", t -> t.is(5, () -> t.x.years(seed, 1, 1)));
        }
        for (int i = 7; i <= 9; i++) {
            B.test(38, "0: 9 at most, he has " + i, "room 5 0 0;bass 3 " + i + " 0;dreams fish=9;",
                t -> t.is(5, () -> t.x.years(eats, 1, 1)));
        }
    }

    private static void image() {
        B.test(39, "of a new object", t -> {
            t.x.image();
            t.x.nights(5);
            t.is(true, () -> t.x.restore());
            t.is(0, () -> t.x.count(4));
        });
        B.test(39, "it changes nothing", PLAIN, t -> {
            t.x.nights(2);
            t.stays(0, () -> {
                t.x.image();
                return 0;
            });
        });
        B.test(39, "in place of another one", PLAIN, t -> {
            t.x.image();
            t.x.nights(2);
            t.x.image();
            t.x.nights(3);
            t.is(true, () -> t.x.restore());
            t.is(2, () -> t.x.count(4));
        });
        B.test(39, "it is no ACT, and undo leaves it", PLAIN, t -> {
            t.x.nights(2);
            t.x.image();
            t.is(0, () -> t.x.undo());
            t.is(0, () -> t.x.count(4));
            t.is(true, () -> t.x.restore());
            t.is(2, () -> t.x.count(4));
        });
        B.test(39, "it is not another by what comes behind it", PLAIN, t -> {
            t.x.image();
            t.x.door(0, false, 0);
            t.x.tie(0, true);
            t.x.hear(1, 1, true);
            t.x.restore();
            t.x.door(1, false, 1);
            t.is(true, () -> t.x.restore());
            t.is(1, () -> t.x.room(0, 1));
            t.is(0, () -> t.x.room(1, 1));
            t.is(0, () -> t.x.count(6));
            t.is(0, () -> t.x.count(10));
        });
    }

    private static void restore() {
        B.test(40, "false: there is none, and nothing changes", PLAIN, t -> {
            t.x.nights(3);
            t.stays(0, () -> t.x.restore() ? 1 : 0);
        });
        B.test(40, "false: it went with the HOUSE", PLAIN, t -> {
            t.x.image();
            Check.read(t.x, PLAIN);
            t.x.nights(3);
            t.stays(0, () -> t.x.restore() ? 1 : 0);
        });
        B.test(40, "true again and again", PLAIN, t -> {
            t.x.image();
            for (int i = 0; i < 3; i++) {
                t.x.nights(4);
                t.is(true, () -> t.x.restore());
                t.is(0, () -> t.x.count(4));
            }
        });
        B.test(40, "nothing has been since", PLAIN, t -> {
            t.x.nights(3);
            t.x.image();
            t.stays(1, () -> t.x.restore() ? 1 : 0);
        });
        B.test(40, "a text with a FAULT, or none for house(), leaves it", PLAIN, t -> {
            t.x.image();
            Check.read(t.x, "x");
            t.bad(() -> t.x.house(1));
            t.is(true, () -> t.x.restore());
        });
    }

    private static void restoreBringsBack() {
        B.test(40, "all that NIGHTS and ACTS change", PLAIN, t -> {
            t.x.image();
            t.stays(1, () -> {
                t.x.tie(1, true);
                t.x.move(0, 1);
                t.x.fish(0, 4);
                t.x.pray(1, 1);
                t.x.door(0, true, 1);
                t.x.door(1, false, 1);
                t.x.nights(20);
                return t.x.restore() ? 1 : 0;
            });
        });
        B.test(40, "40 ACTS that are kept, as they were", PLAIN, t -> {
            int[] sleep = {1};
            t.times(60, () -> t.x.pray(0, sleep[0]++));
            t.x.image();
            t.times(40, () -> t.x.undo());
            t.times(7, () -> t.x.nights(1));
            t.is(true, () -> t.x.restore());
            t.is(40, () -> t.x.count(9));
            for (int left = 39; left >= 0; left--) {
                int due = left;
                t.is(due, () -> t.x.undo());
                t.is(20 + due, () -> t.x.monk(0, 1));
            }
            t.is(-1, () -> t.x.undo());
        });
        B.test(40, "40 ACTS that are kept, though others came in their place", PLAIN, t -> {
            int[] sleep = {1};
            t.times(60, () -> t.x.pray(0, sleep[0]++));
            t.x.image();
            t.times(13, () -> t.x.pray(0, sleep[0]++));
            t.is(true, () -> t.x.restore());
            t.is(60, () -> t.x.monk(0, 1));
            t.times(39, () -> t.x.undo());
            t.is(21, () -> t.x.monk(0, 1));
            t.is(0, () -> t.x.undo());
            t.is(20, () -> t.x.monk(0, 1));
        });
        B.test(40, "no ACTS, if none were kept", PLAIN, t -> {
            t.x.image();
            t.x.nights(1);
            t.x.restore();
            t.stays(-1, () -> t.x.undo());
        });
        B.test(40, "what is HEARD: eight, and just these", EATERS, t -> {
            t.times(7, () -> t.x.hear(1, 5, true));
            t.x.hear(2, 7, true);
            t.x.image();
            t.x.forget();
            t.times(8, () -> t.x.hear(3, 99, true));
            t.x.restore();
            t.is(8, () -> t.x.count(10));
            eats(t, 12, 4, 0);
        });
        B.test(40, "what is HEARD: that it wasn't sung", EATERS, t -> {
            t.x.hear(2, 7, false);
            t.x.image();
            t.x.forget();
            t.x.hear(2, 7, true);
            t.x.restore();
            t.is(1, () -> t.x.eaten(2));
        });
        B.test(40, "STATUS 0 to 2, though they are fewer", PLAIN, t -> {
            Check.read(t.x, "x");
            t.x.nights(0);
            t.x.hear(0, 0, true);
            t.x.image();
            Check.read(t.x, "x");
            t.x.nights(0);
            t.x.hear(0, 0, true);
            t.x.restore();
            for (int i = 12; i <= 14; i++) {
                int what = i;
                t.is(1, () -> t.x.count(what));
            }
        });
        B.test(40, "the tape, and the place of the latest FAULT, are not in it", PLAIN, t -> {
            t.x.image();
            Check.read(t.x, "  x");
            Check.put(t.x, "room");
            t.x.restore();
            t.is(20, () -> t.x.count(11));
            t.is(2, () -> t.x.fault());
        });
    }
}
