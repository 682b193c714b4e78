/** Boundary cases of the text: promises 1 to 4, and what the terms say of a text. */
public final class TextBoundaryTest {
    private static final Boundary B = new Boundary(1, 4);
    private static final String ROOM = "room 1 0 0;";
    private static final String PLAIN = "room 5 1 0;room 7 0 1;bass 50 0 0;tenor 49 2 0;bass 99 9 1;";

    public static void main(String[] args) {
        newObject();
        feedFits();
        feedRefused();
        houseThrows();
        houseTakes();
        houseAnew();
        houseWithFault();
        tokens();
        tellsRooms();
        tellsMonks();
        tellsTiresAndRests();
        doorsWrap();
        tooMuch();
        tooDeep();
        leastFault();
        untold();
        twice();
        endsTooSoon();
        exprFaults();
        exprCounts();
        exprValues();
        faultPlaces();
        B.end();
    }

    /** A text without a fault; ahead of the numbers that it must tell. */
    private static void fine(String sentence, String text) {
        B.test(3, sentence + " [" + text + "]", t -> {
            t.is(0, () -> Check.read(t.x, text));
            t.is(-1, () -> t.x.fault());
            t.is(0, () -> t.x.count(12));
        });
    }

    /** A stroke stands ahead of the token at fault. */
    private static void fault(int fault, String sentence, String marked) {
        String text = marked.replace("|", "");
        B.test(3, sentence + " [" + marked + "]", t -> {
            t.is(fault, () -> Check.read(t.x, text));
            t.is(marked.indexOf('|'), () -> t.x.fault());
            t.is(1, () -> t.x.count(12));
        });
    }

    private static void newObject() {
        B.test(1, "no MONKS, no ROOMS, nothing has been", t -> {
            long[] due = {0, 0, 20, 10, 0, 0, 0, 0, 0, 0, 0, 0, 0, 0, 0};
            for (int i = 0; i < due.length; i++) {
                int what = i;
                t.is(due[i], () -> t.x.count(what));
            }
            t.is(-1, () -> t.x.fault());
        });
        B.test(1, "there is no MONK 0", t -> t.noSuch(() -> t.x.monk(0, 0)));
        B.test(1, "there is no ROOM 0", t -> t.noSuch(() -> t.x.room(0, 0)));
        B.test(1, "there is no ACT to undo", t -> t.stays(-1, () -> t.x.undo()));
        B.test(1, "there is no image", t -> t.is(false, () -> t.x.restore()));
        B.test(1, "two objects share nothing", PLAIN, t -> {
            DreamMatins other = new DreamMatins();
            t.is(0, () -> other.count(1));
            t.is(3, () -> t.x.count(1));
        });
    }

    private static void feedFits() {
        B.test(2, "the first twenty", t -> t.is(20, () -> t.x.feed(0, 0, 0, 0, 0)));
        B.test(2, "of each number the highest first, the numbers in their order", t -> {
            t.is(20, () -> t.x.feed(0x726f6f6d, 0x20313220, 0x3020303b, 0x74697265, 0x7320333b));
            t.is(0, () -> t.x.house(20));
            t.is(12, () -> t.x.room(0, 0));
            t.is(3, () -> t.x.count(2));
        });
        B.test(2, "they come behind those that are there", t -> {
            Check.put(t.x, "room 1 0 0;        room");
            t.is(60, () -> t.x.feed(0x20202020, 0x20202020, 0x20202020, 0x20202020, 0x20202020));
            t.is(1, () -> t.x.house(60));
            t.is(60, () -> t.x.fault());
        });
        B.test(2, "a byte above 127 is one byte, and no TOKEN", t -> {
            t.is(20, () -> t.x.feed(0x202020ff, 0, 0, 0, 0));
            t.is(1, () -> t.x.house(20));
            t.is(3, () -> t.x.fault());
        });
        B.test(2, "behind house() the tape is empty, so twenty again", t -> {
            t.times(35, () -> t.x.feed(0, 0, 0, 0, 0));
            t.is(1, () -> t.x.house(700));
            t.is(20, () -> t.x.feed(0, 0, 0, 0, 0));
        });
    }

    private static void feedRefused() {
        B.test(2, "it may have 700", t -> {
            t.times(34, () -> t.x.feed(0, 0, 0, 0, 0));
            t.is(700, () -> t.x.feed(0, 0, 0, 0, 0));
            t.is(700, () -> t.x.count(11));
        });
        B.test(2, "NONE, and none come, if it would have more", t -> {
            t.times(35, () -> t.x.feed(0x20202020, 0x20202020, 0x20202020, 0x20202020, 0x20202020));
            t.stays(-1, () -> t.x.feed(0x726f6f6d, 0, 0, 0, 0));
            t.is(0, () -> t.x.house(700));
        });
        B.test(2, "and that is no STATUS", t -> {
            t.times(36, () -> t.x.feed(0, 0, 0, 0, 0));
            for (int what = 12; what <= 14; what++) {
                int status = what;
                t.is(0, () -> t.x.count(status));
            }
        });
    }

    private static void houseThrows() {
        for (int n : new int[] {-1, Integer.MIN_VALUE}) {
            B.test(3, "IllegalArgumentException, and nothing changes: n below 0, " + n, PLAIN, t -> {
                Check.read(t.x, "x");
                Check.put(t.x, ROOM);
                t.bad(() -> t.x.house(n));
            });
        }
        for (int n : new int[] {21, Integer.MAX_VALUE}) {
            B.test(3, "IllegalArgumentException, and nothing changes: the tape has not so many, " + n, PLAIN, t -> {
                t.x.image();
                Check.put(t.x, ROOM);
                t.bad(() -> t.x.house(n));
                t.is(0, () -> t.x.house(11));
                t.is(1, () -> t.x.count(0));
            });
        }
        B.test(3, "IllegalArgumentException: the tape is empty, and 1 is too many", t -> t.bad(() -> t.x.house(1)));
        B.test(3, "IllegalArgumentException: the tape was emptied by another house()", t -> {
            Check.read(t.x, ROOM);
            t.bad(() -> t.x.house(11));
        });
        B.test(3, "IllegalArgumentException: a full tape has no 701", t -> {
            t.times(35, () -> t.x.feed(0, 0, 0, 0, 0));
            t.bad(() -> t.x.house(701));
        });
    }

    private static void houseTakes() {
        B.test(3, "no bytes of an empty tape are a HOUSE", t -> t.is(0, () -> t.x.house(0)));
        B.test(3, "no bytes of a tape are an empty HOUSE, and the tape is empty then", PLAIN, t -> {
            Check.put(t.x, PLAIN);
            t.is(0, () -> t.x.house(0));
            t.is(0, () -> t.x.count(0));
            t.is(0, () -> t.x.count(1));
            t.is(0, () -> t.x.count(11));
        });
        B.test(3, "all bytes of the tape", t -> {
            Check.put(t.x, ROOM);
            t.is(0, () -> t.x.house(20));
            t.is(1, () -> t.x.count(0));
            t.is(0, () -> t.x.count(11));
        });
        B.test(3, "the first bytes alone: what is behind them is gone with the tape", t -> {
            Check.put(t.x, ROOM + ROOM);
            t.is(0, () -> t.x.house(11));
            t.is(1, () -> t.x.count(0));
            t.is(0, () -> t.x.count(11));
        });
        B.test(3, "one byte too few is a FAULT", t -> {
            Check.put(t.x, ROOM);
            t.is(1, () -> t.x.house(10));
            t.is(10, () -> t.x.fault());
        });
        B.test(3, "the first bytes alone: a NUMBER ends with them", t -> {
            Check.put(t.x, "tires 55;");
            t.is(1, () -> t.x.house(7));
            t.is(7, () -> t.x.fault());
        });
        B.test(3, "a NUMBER ends with the text, whatever another text had there", t -> {
            t.is(2, () -> Check.read(t.x, "tires 55;"));
            t.is(1, () -> Check.read(t.x, "tires 5"));
            t.is(7, () -> t.x.fault());
        });
        B.test(3, "a TEXT of 700 bytes", t -> {
            String text = ROOM + " ".repeat(678) + ROOM;
            t.is(700, () -> text.length());
            t.is(0, () -> Check.read(t.x, text));
            t.is(2, () -> t.x.count(0));
        });
    }

    private static void houseAnew() {
        B.test(3, "all anew: NIGHT, who was UP, who is TIED, who MET", PLAIN, t -> {
            t.x.tie(1, true);
            t.x.move(2, 0);
            t.x.nights(5);
            t.is(0, () -> Check.read(t.x, PLAIN));
            for (int what : new int[] {4, 5, 6, 8}) {
                t.is(0, () -> t.x.count(what));
            }
            t.is(7, () -> t.x.count(7));
            t.is(50, () -> t.x.monk(0, 1));
            t.is(1, () -> t.x.monk(2, 3));
        });
        B.test(3, "all anew: TIRES 20, RESTS 10 without, and no DREAMS of another HOUSE", t -> {
            Check.read(t.x, "room 1 0 0;bass 0 0 0;tires 3;rests 4;dreams 1;");
            Check.read(t.x, "room 1 0 0;bass 49 0 0;");
            t.is(20, () -> t.x.count(2));
            t.is(10, () -> t.x.count(3));
            t.is(0, () -> t.x.up(1, 0));
        });
        B.test(3, "all anew: shorter DREAMS", t -> {
            Check.read(t.x, "room 1 0 0;bass 0 0 0;dreams not 0;");
            Check.read(t.x, "room 1 0 0;bass 0 0 0;dreams 0;");
            t.is(0, () -> t.x.up(1, 0));
        });
        B.test(3, "all anew: fewer ROOMS and MONKS", t -> {
            Check.read(t.x, ROOM.repeat(9) + "bass 1 1 8;".repeat(8));
            Check.read(t.x, ROOM + "alto 1 1 0;");
            t.is(1, () -> t.x.count(0));
            t.is(1, () -> t.x.count(1));
            t.is(2, () -> t.x.monk(0, 0));
            t.is(1, () -> t.x.room(0, 3));
        });
        B.test(3, "ACTS are gone", PLAIN, t -> {
            t.x.pray(0, 3);
            Check.read(t.x, PLAIN);
            t.is(0, () -> t.x.count(9));
            t.stays(-1, () -> t.x.undo());
        });
        B.test(3, "what is HEARD is gone", PLAIN, t -> {
            t.x.hear(1, 99, true);
            t.is(0, () -> t.x.eaten(2));
            Check.read(t.x, PLAIN);
            t.is(0, () -> t.x.count(10));
            t.is(1, () -> t.x.eaten(2));
        });
        B.test(3, "the image is gone", PLAIN, t -> {
            t.x.image();
            Check.read(t.x, PLAIN);
            t.stays(0, () -> t.x.restore() ? 1 : 0);
        });
    }

    private static void houseWithFault() {
        B.test(3, "with a FAULT all stays but STATUS", PLAIN, t -> {
            t.x.nights(2);
            t.x.hear(1, 5, true);
            Check.read(t.x, "|");
            t.refusedWith(1, 0, () -> Check.read(t.x, "|"));
        });
        B.test(3, "with a FAULT behind lines that are fine all stays, too", PLAIN, t -> {
            t.is(1, () -> Check.read(t.x, "room 9 0 0;alto 1 1 0;tires 7;rests 7;dreams 1;x"));
            t.is(2, () -> t.x.count(0));
            t.is(3, () -> t.x.count(1));
            t.is(20, () -> t.x.count(2));
            t.is(10, () -> t.x.count(3));
            t.is(5, () -> t.x.room(0, 0));
            t.is(0, () -> t.x.monk(0, 0));
            t.is(5, () -> t.x.up(1, 0));
        });
        B.test(3, "with a FAULT ACTS stay", PLAIN, t -> {
            t.x.pray(0, 3);
            Check.read(t.x, "x");
            t.is(0, () -> t.x.undo());
            t.is(50, () -> t.x.monk(0, 1));
        });
        B.test(3, "with a FAULT the image stays", PLAIN, t -> {
            t.x.image();
            Check.read(t.x, "x");
            t.is(true, () -> t.x.restore());
        });
        B.test(3, "with a FAULT the tape is empty then, too", PLAIN, t -> {
            Check.put(t.x, "x");
            t.is(1, () -> t.x.house(1));
            t.is(0, () -> t.x.count(11));
        });
        B.test(3, "each FAULT is one STATUS", t -> {
            t.times(5, () -> Check.read(t.x, "x"));
            t.is(5, () -> t.x.count(12));
            t.is(0, () -> t.x.count(13));
            t.is(0, () -> t.x.count(14));
        });
    }

    private static void tokens() {
        fine("LINE*: none at all", "");
        fine("blanks count for nothing: a text of them alone", " \n\n ");
        fine("blanks count for nothing: many, at both ends", "\n  room \n 1\n0  0 \n;  \n");
        fine("between a word and a NUMBER none is needed", "room1 0 0;");
        fine("nor between a NUMBER and a word", "dreams 1and 1or 1;");
        fault(1, "blanks are 32 and 10 alone, not 9", "room|\t1 0 0;");
        fault(1, "blanks are 32 and 10 alone, not 13", "room 1 0 0;|\r\n");
        fault(1, "a byte that is no TOKEN: 0", ROOM + "|" + (char) 0);
        fault(1, "a byte that is no TOKEN: 255", ROOM + "|" + (char) 255);
        fault(1, "a byte that is no TOKEN, right behind a word", "room|A 1 0 0;");
        fault(1, "words are a .. z, ahead of a", "dreams |`;");
        fault(1, "words are a .. z, behind z", "dreams |{;");
        fault(3, "words are a .. z: a", "dreams |a;");
        fault(3, "words are a .. z: z", "dreams |z;");
        fault(3, "words are a .. z: z belongs to the word", "dreams |fishz;");
        fault(1, "digits are 0 .. 9, ahead of 0: / is a sign", "room |/ 0 0;");
        fault(1, "digits are 0 .. 9, behind 9", "room |: 0 0;");
        fault(1, "a word is the longest row", "|roomroom 1 0 0;");
        fault(1, "a word is the longest row: one sign more", "|basss 1 0 0;");
        fault(1, "a word is the longest row: one sign less", "|bas 1 0 0;");
        fault(1, "a blank parts a word", "|ro om 1 0 0;");
        fault(1, "a blank parts a NUMBER", "room 1 0 0 |0;");
        fault(1, "a sign that is none of them", "dreams 1|>0;");
    }

    private static void tellsRooms() {
        fine("VERSE 0, DOORS 0", "room 0 0 0;");
        fine("VERSE 99, DOORS 8", "room 99 8 8;");
        fine("NUMBERS may have 4 digits", "room 0099 0008 0008;");
        fault(2, "VERSE 0 to 99", "room |100 0 0;");
        fault(2, "a DOOR 0 to 8", "room 0 |9 0;");
        fault(2, "a WET DOOR 0 to 8", "room 0 0 |9;");
        fault(2, "a NUMBER of 5 digits, whatever it is worth", "room |00000 0 0;");
        fault(2, "a NUMBER of 5 digits as a DOOR", "room 0 |00000 0;");
        fault(2, "a NUMBER of very many digits", "room 0 0 |" + "4294967296".repeat(9) + ";");
        B.test(3, "a VERSE of 99 is told", "room 99 0 0;", t -> t.is(99, () -> t.x.room(0, 0)));
    }

    private static void tellsMonks() {
        fine("SLEEP 0, FISH 0", ROOM + "bass 0 0 0;");
        fine("SLEEP 99, FISH 9", ROOM + "bass 99 9 0;");
        fault(2, "SLEEP 0 to 99", ROOM + "bass |100 0 0;");
        fault(2, "FISH 0 to 9", ROOM + "bass 99 |10 0;");
        fine("the ROOM is the last one told ahead", ROOM + ROOM + "bass 99 9 1;");
        fault(3, "the ROOM isn't told ahead", ROOM + "bass 99 9 |1;");
        fault(3, "the ROOM is told behind", ROOM + "bass 99 9 |1;" + ROOM);
        fault(3, "no ROOM is told", "bass 99 9 |0;");
        fault(3, "the ROOM is the 10th, which can't be", ROOM.repeat(9) + "bass 0 0 |9;");
        fault(3, "the ROOM is a NUMBER of four digits", ROOM + "bass 0 0 |9999;");
        fault(2, "the ROOM is a NUMBER of five digits", ROOM + "bass 0 0 |00000;");
        B.test(3, "the four VOICES", ROOM + "bass 0 0 0;tenor 0 0 0;alto 0 0 0;treble 0 0 0;", t -> {
            for (int i = 0; i < 4; i++) {
                int monk = i;
                t.is(monk, () -> t.x.monk(monk, 0));
            }
        });
    }

    private static void tellsTiresAndRests() {
        B.test(3, "TIRES 1 and RESTS 0", "tires 1;rests 0;", t -> {
            t.is(1, () -> t.x.count(2));
            t.is(0, () -> t.x.count(3));
        });
        B.test(3, "TIRES 50 and RESTS 50", "tires 50;rests 50;", t -> {
            t.is(50, () -> t.x.count(2));
            t.is(50, () -> t.x.count(3));
        });
        B.test(3, "20 and 10 without", ROOM, t -> {
            t.is(20, () -> t.x.count(2));
            t.is(10, () -> t.x.count(3));
        });
        fault(2, "TIRES 1 to 50: 0", "tires |0;");
        fault(2, "TIRES 1 to 50: 51", "tires |51;");
        fault(2, "RESTS 0 to 50: 51", "rests |51;");
        fault(2, "a NUMBER of 5 digits as TIRES", "tires |00005;");
        fault(2, "a NUMBER of 5 digits as RESTS", "rests |00005;");
    }

    private static void doorsWrap() {
        B.test(3, "a DOOR MOD how many ROOMS: as many is 0", "room 0 3 2;" + ROOM + ROOM, t -> {
            t.is(0, () -> t.x.room(0, 1));
            t.is(2, () -> t.x.room(0, 2));
        });
        B.test(3, "a DOOR MOD how many ROOMS: 8 of three", "room 0 1 8;" + ROOM + ROOM, t -> {
            t.is(1, () -> t.x.room(0, 1));
            t.is(2, () -> t.x.room(0, 2));
        });
        B.test(3, "a DOOR MOD how many ROOMS: the last one's, too", ROOM + ROOM + "room 0 8 7;", t -> {
            t.is(2, () -> t.x.room(2, 1));
            t.is(1, () -> t.x.room(2, 2));
        });
        B.test(3, "a DOOR of the only ROOM leads to itself", "room 0 8 7;", t -> {
            t.is(0, () -> t.x.room(0, 1));
            t.is(0, () -> t.x.room(0, 2));
        });
        B.test(3, "in all: ROOMS behind count, too", "room 0 8 8;" + ROOM.repeat(8), t -> {
            t.is(8, () -> t.x.room(0, 1));
            t.is(8, () -> t.x.room(0, 2));
        });
        B.test(3, "in all: those behind MONKS and rules, too", "room 0 1 1;bass 0 0 0;dreams 1;" + ROOM,
            t -> t.is(1, () -> t.x.room(0, 1)));
    }

    private static void tooMuch() {
        fine("9 ROOMS and 8 MONKS", ROOM.repeat(9) + "bass 0 0 8;".repeat(8));
        fault(2, "the first TOKEN of the 10th ROOM", ROOM.repeat(9) + "|room 1 0 0;");
        fault(2, "the first TOKEN of the 10th ROOM, whatever is behind it", ROOM.repeat(9) + "|room");
        for (String voice : new String[] {"bass", "tenor", "alto", "treble"}) {
            fault(2, "the first TOKEN of the 9th MONK", ROOM + "alto 0 0 0;".repeat(8) + "|" + voice + " 0 0 0;");
        }
        fault(2, "the first TOKEN of the 9th MONK, whatever is behind it", ROOM + "alto 0 0 0;".repeat(8) + "|bass;");
        fine("9999 in an EXPR", "dreams 9999;");
        fine("in an EXPR any NUMBER of 4 digits is as told", "dreams 100+0000;");
        fault(2, "in an EXPR a NUMBER of 5 digits", "dreams |10000;");
        fault(2, "in an EXPR a NUMBER of 5 digits, behind a sign", "dreams 1+|00000;");
        fine("six 'not'", "dreams " + "not ".repeat(6) + "1;");
        fault(2, "the seventh 'not'", "dreams " + "not ".repeat(6) + "|not 1;");
        fault(2, "the seventh 'not', whatever is behind it", "dreams " + "not ".repeat(6) + "|not;");
        fault(2, "the seventh 'not' behind 'and'", "dreams 1 and " + "not ".repeat(6) + "|not 1;");
        fine("side by side: 'and' parts them", "dreams not not not not 1 and not not not not 1;");
        fine("side by side: a parenthesis parts them", "dreams " + "not ".repeat(6) + "(" + "not ".repeat(6) + "1);");
    }

    private static void tooDeep() {
        String open = "dreams ((((((";
        fine("an EXPR within 5 others", "dreams (((((1)))));");
        fine("within 5 others, side by side", "dreams (((((1)))))+(((((1)))));");
        fault(2, "an EXPR within 6 others: a NUMBER", open + "|1))))));");
        fault(2, "an EXPR within 6 others: a NUMBER of 5 digits", open + "|10000");
        fault(2, "an EXPR within 6 others: a VALUE", open + "|fish))))));");
        fault(2, "an EXPR within 6 others: 'not'", open + "|not 1))))));");
        fault(2, "an EXPR within 6 others: any word", open + "|xyz))))));");
        fault(2, "an EXPR within 6 others: a word that can't begin one", open + "|or 1))))));");
        fault(2, "an EXPR within 6 others: a parenthesis", open + "|(1)))))));");
        fault(1, "what can't begin an EXPR is 1 there, too: a sign", open + "|+1))))));");
        fault(1, "what can't begin an EXPR is 1 there, too: the other parenthesis", open + "|)))))));");
        fault(1, "what can't begin an EXPR is 1 there, too: no TOKEN", open + "|A");
        fault(1, "what can't begin an EXPR is 1 there, too: the end", open + "|");
        fault(2, "the parentheses need not stand side by side", "dreams (1 or (not (1<(1-(2*(|1))))));");
        fault(2, "closed ones don't count, open ones do", "dreams (((((1)+((|1)))))) ;");
    }

    private static void leastFault() {
        fault(1, "of one TOKEN the least: 5 digits where no NUMBER can stand", "room 1 0 0 |00000;");
        fault(1, "of one TOKEN the least: 5 digits where a LINE begins", "|00000");
        fault(1, "of one TOKEN the least: 5 digits behind a PART", "dreams 1 |10000;");
        fault(2, "of one TOKEN the least: 2 ahead of 3, a MONK's ROOM of 5 digits", "bass 0 0 |10000;");
        fault(2, "of one TOKEN the least: 2 ahead of 3, a word within 6 others", "dreams ((((((|room2");
        fault(3, "the first along the text: 3 ahead of 1", ROOM + "bass 0 0 |1 x");
        fault(2, "the first along the text: 2 ahead of 1", "room |100 x");
        fault(5, "the first along the text: 5 ahead of 1", "tires 1;|tires x");
        fault(1, "the first along the text: 1 ahead of 2", "room |x 100 0;");
    }

    private static void untold() {
        for (String word : new String[] {"a", "sleeps", "bass", "tires", "dreams", "and", "or"}) {
            fault(3, "any word where a PART must stand that is no VALUE", "dreams |" + word + ";");
        }
        fault(3, "'not' where a PART must stand: behind +", "dreams 1+|not 1;");
        fault(3, "'not' where a PART must stand: behind *", "dreams 1*|not 1;");
        fault(3, "'not' where a PART must stand: behind <", "dreams 1<|not 1;");
        fault(3, "behind 'not'", "dreams not |x;");
        fault(3, "behind 'and'", "dreams 1 and |or 1;");
        fault(3, "in parentheses", "dreams (|x);");
        fault(1, "a word where none must stand is 1", "dreams 1 |x;");
        fault(1, "a VALUE where none must stand is 1", "dreams 1 |fish;");
        fault(1, "'not' where none must stand is 1", "dreams 1 |not 1;");
        fault(1, "a word where a NUMBER must stand is 1", "room |x 0 0;");
    }

    private static void twice() {
        fault(5, "a second 'tires'", "tires 5;|tires 5;");
        fault(5, "a second 'rests'", "rests 5;|rests 5;");
        fault(5, "a second 'dreams'", "dreams 5;|dreams 5;");
        fault(5, "a second 'tires', others between", "tires 5;rests 5;dreams 1;" + ROOM + "|tires 5;");
        fine("one of each", "tires 5;rests 5;dreams 5;");
        B.test(3, "a second in another HOUSE is a first", t -> {
            t.is(0, () -> Check.read(t.x, "tires 5;rests 6;dreams 1;"));
            t.is(0, () -> Check.read(t.x, "tires 7;rests 8;dreams 1;"));
            t.is(7, () -> t.x.count(2));
            t.is(8, () -> t.x.count(3));
        });
    }

    private static void endsTooSoon() {
        String[] all = {"room", "1", "0", "0", ";"};
        StringBuilder text = new StringBuilder();
        for (int i = 0; i < all.length - 1; i++) {
            text.append(i == 0 ? "" : " ").append(all[i]);
            fault(1, "the text's length where it ends too soon", text + "|");
            fault(1, "the text's length where it ends too soon, blanks behind", text + " \n |");
        }
        fault(1, "it ends too soon: a MONK", ROOM + "bass 1 1|");
        fault(1, "it ends too soon: a MONK without ;", ROOM + "bass 1 1 0|");
        fault(1, "it ends too soon: TIRES", "tires|");
        fault(1, "it ends too soon: RESTS", "rests|");
        fault(1, "it ends too soon: no EXPR", "dreams|");
        fault(1, "it ends too soon: an EXPR without ;", "dreams 1|");
        fault(1, "it ends too soon: behind a sign", "dreams 1+|");
        fault(1, "it ends too soon: behind 'not'", "dreams not|");
        fault(1, "it ends too soon: an open parenthesis", "dreams (1|");
        fault(1, "it ends too soon: at 700, a word", " ".repeat(696) + "room|");
        fault(1, "it ends within a word: at 700", " ".repeat(697) + "|roo");
        fault(1, "it ends too soon: at 700, a NUMBER", " ".repeat(693) + "tires 5|");
    }

    private static void exprFaults() {
        fault(1, "no EXPR", "dreams |;");
        fault(1, "an empty parenthesis", "dreams (|);");
        fault(1, "a parenthesis that isn't closed", "dreams (1|;");
        fault(1, "one that isn't open", "dreams 1|);");
        fault(1, "a second test", "dreams 1<2|<3;");
        fault(1, "a second test of the other kind", "dreams 1=2|<3;");
        fine("a second test in parentheses", "dreams (1<2)=(2<3);");
        fine("a test on each side of 'and'", "dreams 1<2 and 2=3 or 1=1;");
        fault(1, "no sign ahead of a PART", "dreams |-1;");
        fault(1, "two signs", "dreams 1+|-1;");
        fault(1, "a LINE without anything", "|;");
        fault(1, "one NUMBER too many", "tires 5 |5;");
        fault(1, "one NUMBER too few", "rests |;");
    }

    /** Of the first monk (an alto of sleep 33 and 4 fish in room 1, whose verse is 9) the rule is worth just so much. */
    private static void worth(String sentence, int value, String rule) {
        String house = "room 7 0 0;room 9 1 1;alto 33 4 1;dreams (" + rule + ")"
            + (value < 0 ? "+" + -value + "=0;" : "=" + value + ";");
        B.test(3, sentence + " [" + rule + " is " + value + "]", house, t -> t.is(1, () -> t.x.up(1, 0)));
    }

    private static void exprCounts() {
        worth("from the left: -", 5, "10-3-2");
        worth("from the left: /", 2, "16/4/2");
        worth("from the left: / and *", 6, "7/2*2");
        worth("* is within +", 7, "1+2*3");
        worth("'and' is within 'or'", 1, "1 or 1 and 0");
        worth("'not' is round a test", 0, "not 1<2");
        worth("a test is round +", 1, "1+1<3");
        worth("/ cut down to 0, below 0", -3, "(0-7)/2");
        worth("/ cut down to 0, by less than 0", -3, "7/(0-2)");
        worth("/ cut down to 0, both below 0", 3, "(0-7)/(0-2)");
        worth("by 0 gives 0", 0, "7/0");
        worth("0 by 0 gives 0", 0, "0/0");
        worth("by what comes to 0 gives 0", 1, "7/(sleep-33)+1");
        worth("ints that wrap: the greatest and one more", 1, "(2048*1024*1024-1)+1<0");
        worth("ints that wrap: the least and one less", 1, "0<(0-2048*1024*1024)-1");
        worth("ints that wrap: *", 0, "4096*4096*256");
        worth("ints that wrap: the least by -1 stays so", 1, "2048*1024*1024/(0-1)<0");
        worth("tests are 1 or 0: <", 2, "(1<2)+1");
        worth("tests are 1 or 0: < of like ones", 0, "5<5");
        worth("tests are 1 or 0: =", 2, "(5=5)+1");
        worth("tests are 1 or 0: = of unlike ones", 0, "5=6");
        worth("'not' is 1 or 0", 0, "not 7");
        worth("'not' is 1 or 0: of what is below 0", 0, "not (0-1)");
        worth("'not' is 1 or 0: of 0", 1, "not 0");
        worth("two 'not' make 1 of 7", 1, "not not 7");
        worth("'and' is 1 or 0", 1, "6 and 8");
        worth("'or' is 1 or 0", 1, "6 or 9");
        worth("what isn't 0 holds: below 0", 1, "(0-1) and 2");
        worth("what isn't 0 holds: below 0, 'or'", 1, "0 or (0-1)");
        worth("what is 0 doesn't", 0, "0 and 7");
        worth("neither holds", 0, "0 or 0");
    }

    private static void exprValues() {
        worth("'sleep'", 33, "sleep");
        worth("'fish'", 4, "fish");
        worth("'voice'", 2, "voice");
        worth("'room'", 1, "room");
        worth("'verse' of the ROOM", 9, "verse");
        worth("'night' is 0 at first", 0, "night");
        worth("'met' is 0 if nobody else is there", 0, "met");
        worth("'last' is 0 at first", 0, "last");
        String all = "room 1 0 0;" + "bass 0 0 0;".repeat(8) + "dreams met=7;";
        B.test(3, "'met': seven others", all, t -> t.is(255, () -> t.x.up(1, 0)));
        B.test(3, "'met' counts those who are TIED, too", all, t -> {
            t.x.tie(0, true);
            t.is(254, () -> t.x.up(1, 0));
        });
        B.test(3, "'last' is 1 behind a NIGHT in which he was UP", "room 1 0 0;bass 0 0 0;dreams night=0 or last=1;",
            t -> t.is(60, () -> t.x.often(0, 60)));
        B.test(3, "'last' is 0 behind one in which he wasn't", "room 1 0 0;bass 0 0 0;dreams not last;",
            t -> t.is(30, () -> t.x.often(0, 60)));
    }

    private static void faultPlaces() {
        B.test(4, "NONE without a house()", t -> t.is(-1, () -> t.x.fault()));
        B.test(4, "NONE behind a HOUSE without a FAULT", PLAIN, t -> t.is(-1, () -> t.x.fault()));
        B.test(4, "0, the first byte", t -> {
            Check.read(t.x, "x");
            t.is(0, () -> t.x.fault());
        });
        B.test(4, "699, the last byte", t -> {
            Check.read(t.x, " ".repeat(699) + "x");
            t.is(699, () -> t.x.fault());
        });
        B.test(4, "700, where the longest text ends too soon", t -> {
            Check.read(t.x, " ".repeat(699) + "x");
            Check.read(t.x, "rests" + " ".repeat(695));
            t.is(700, () -> t.x.fault());
        });
        B.test(4, "a TOKEN's first byte, not its last one", t -> {
            Check.read(t.x, "  rooms");
            t.is(2, () -> t.x.fault());
        });
        B.test(4, "the latest one's", t -> {
            Check.read(t.x, "   x");
            Check.read(t.x, " x");
            t.is(1, () -> t.x.fault());
        });
        B.test(4, "a HOUSE without one takes it away", t -> {
            Check.read(t.x, "   x");
            Check.read(t.x, ROOM);
            t.is(-1, () -> t.x.fault());
        });
        B.test(4, "a house() that throws leaves it", t -> {
            Check.read(t.x, "   x");
            t.bad(() -> t.x.house(1));
            t.is(3, () -> t.x.fault());
        });
    }
}
