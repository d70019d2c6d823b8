/** The boundary cases of "Terms", ==== 3: ways, the game, joining, rows, snow, winters, trays, images, refused calls. */
public final class AskingEdgesTest extends Edges {
    private static final String FULL_TEXT = "farms 2 moments 4;bit 0 to 1;bit 1 to 2;bit 2 to 3 must;bit 0 to 2;bit 2 to 3 must;bit 0 to 2;bit 3 to 2;";

    private AskingEdgesTest() {
    }

    public static void main(String[] args) throws Exception {
        runAll(AskingEdgesTest.class);
    }

    // ---- ways

    static void oneBehindTheOther() {
        sentence("Terms", "A WAY from a MOMENT to another one: BITS one behind the other, each from where the one ahead leads to,");
        PartyLine x = fine("farms 2 moments 4;bit 0 to 1;bit 2 to 3;", 3);
        due("nothing leads from 1 to 2", x.fewest(0, 3), -1);
        due("nor back", x.fewest(1, 0), -1);
        due("one bit", x.fewest(2, 3), 1);
        due("no bit", x.fewest(2, 2), 0);
        x = fine("farms 2 moments 4;bit 0 to 1;bit 2 to 3;bit 1 to 2;", 4);
        due("three bits", x.fewest(0, 3), 3);
        due("the second one", x.way(0, 3, 1), 2);
    }

    static void someFarmMayTellIt() {
        sentence("Terms", "each such that some FARM MAY tell it.");
        PartyLine x = fine("farms 8 moments 3;bit 0 to 1;bit 1 to 2;tells:bit=0 or mood=9;", 4);
        due("nobody may", x.fewest(0, 2), -1);
        due("one of eight may", x.mood(7, 9), 0);
        due("so there is a way", x.fewest(0, 2), 2);
        x = fine("farms 2 moments 3;bit 0 to 1;bit 1 to 2;tells:farm=bit;", 4);
        due("each by another farm", x.fewest(0, 2), 2);
        x = fine("farms 2 moments 2;bit 0 to 1;tells:mood=1;", 3);
        due("nobody may tell bit 0", x.fewest(0, 1), -1);
        due("mood(1, 1)", x.mood(1, 1), 0);
        due("one may tell bit 0", x.fewest(0, 1), 1);
    }

    static void theFewestTheFirst() {
        sentence("Terms", "SHORT: of all the one of the fewest BITS, the first by BITS;");
        PartyLine x = fine(FULL_TEXT, 8);
        due("two bits, not three, though bit 0 is the first", x.fewest(0, 3), 2);
        due("bit 3 ahead of bit 5", x.way(0, 3, 0), 3);
        due("bit 2 ahead of bit 4", x.way(0, 3, 1), 2);
        x = fine("farms 2 moments 4;bit 0 to 1;bit 0 to 2;bit 2 to 3;bit 1 to 3;", 5);
        due("the first bit counts first", x.way(0, 3, 0), 0);
        due("then the second", x.way(0, 3, 1), 3);
    }

    static void allThatMustBeTold() {
        sentence("Terms", "FULL: likewise of those by which each BIT that must be told is told.");
        PartyLine x = fine(FULL_TEXT, 8);
        int[][] rows = {{0, 3, 3, 2, 6, 4}, {0, 2, 3, 2, 6, 4, 6}, {3, 3, 6, 2, 6, 4}, {1, 3, 1, 2, 6, 4}, {2, 2, 2, 6, 4, 6}};
        for (int[] row : rows) {
            int n = row.length - 2;
            due("from " + row[0] + " to " + row[1], x.full(row[0], row[1]), n);
            for (int i = 0; i < n; i++) {
                due("its bit " + i, x.fullWay(row[0], row[1], i), row[i + 2]);
            }
            due("behind the last", x.fullWay(row[0], row[1], n), -1);
        }
        x = fine(FULL_TEXT.replace(" must", ""), 8);
        due("none must: the short one", x.full(0, 3), 2);
        due("none must, none told", x.full(0, 0), 0);
        x = fine("farms 2 moments 2;bit 0 to 1;bit 0 to 0 must;tells:bit=0;", 4);
        due("it must be told, but nobody may", x.full(0, 1), -1);
    }

    // ---- the game

    static void oneMomentForAll() {
        sentence("Terms", "THE GAME of a FARM for a MOMENT: one MOMENT for all (at first the FARM's own), all hear all;");
        PartyLine x = fine("farms 2 moments 3;bit 0 to 1;bit 1 to 2;hears:0=1;", 4);
        due("all hear all, though no law lets them", x.forces(0, 2), 2);
        due("tell(1, 0)", x.tell(1, 0), 0);
        due("farm 1's own moment", x.forces(1, 2), 1);
        due("farm 0's own moment", x.forces(0, 2), 2);
        due("back it never goes", x.forces(1, 0), -1);
        due("farm 0 is there", x.forces(0, 0), 0);
        x = fine("farms 2 moments 3;bit 0 to 1;bit 1 to 2;cut 0;", 4);
        due("though the wire is cut", x.forces(0, 2), 2);
    }

    static void eachTurn() {
        sentence("Terms", "each TURN (as from now on) the FARM whose TURN it is tells one of the BITS from that MOMENT it MAY tell, "
            + "whichever it likes; if there is none, it is silent.");
        PartyLine x = fine("farms 2 moments 2;bit 0 to 1;", 2);
        due("it must tell what it alone can tell", x.forces(1, 1), 1);
        x = fine("farms 2 moments 2;bit 0 to 1;bit 0 to 0;", 3);
        due("whichever farm 0 likes", x.forces(0, 1), 1);
        due("farm 1 has to wait for its own turn", x.forces(1, 1), 2);
        x = fine("farms 2 moments 2;bit 0 to 1;tells:farm=1;", 3);
        due("farm 0 is silent first", x.forces(0, 1), 2);
        due("go(1)", x.go(1), 0);
        due("from the turn on that is now", x.forces(0, 1), 1);
        x = fine("farms 2 moments 2;bit 0 to 1;bit 0 to 0;tells:farm=1 or bit=1;", 4);
        due("what it may not tell it doesn't", x.forces(0, 1), -1);
        due("another one may", x.forces(1, 1), 2);
        x = fine("farms 2 moments 2;bit 0 to 1;bit 0 to 0;tells:bit=1 or farm=mood;", 4);
        due("by moods as they are", x.forces(0, 1), 1);
        due("mood(0, 5)", x.mood(0, 5), 0);
        due("by moods as they are now", x.forces(0, 1), -1);
        due("mood(1, 1)", x.mood(1, 1), 0);
        due("farm 1 may now", x.forces(1, 1), 2);
    }

    static void whateverOthersTell() {
        sentence("Terms", "The FARM FORCES the MOMENT within n TURNS, if it can tell so that it is there by then at some time, "
            + "whatever all others tell.");
        PartyLine x = fine("farms 2 moments 3;bit 0 to 1;bit 1 to 2;", 3);
        due("at some time, though it goes on", x.forces(0, 1), 1);
        due("at the end", x.forces(0, 2), 2);
        x = fine("farms 2 moments 3;bit 0 to 1;bit 1 to 2;bit 1 to 0;", 4);
        due("farm 1 can always go back", x.forces(0, 2), -1);
        due("farm 1 itself", x.forces(1, 2), 2);
        x = fine("farms 2 moments 4;bit 0 to 1;bit 1 to 2;bit 1 to 3;bit 3 to 2;", 5);
        due("by both ways of farm 1", x.forces(0, 2), 3);
        due("of which one is longer", x.forces(1, 2), 2);
    }

    // ---- at one

    static void atOne() {
        sentence("Terms", "AT ONE: two FARMS that think the same MOMENT.");
        PartyLine x = fine("farms 3 moments 3;bit 0 to 1;bit 1 to 2;cut 0;", 4);
        due("at one", x.joins(0, 1), 0);
        due("tell(1, 0)", x.tell(1, 0), 1);
        due("no more", x.joins(0, 1), 1);
        due("these two are", x.joins(1, 2), 0);
    }

    static void joining() {
        sentence("Terms", "JOINING of two: BITS told by these two alone, each as it can, heard by the other one as it HEARS:");
        PartyLine x = fine("farms 3 moments 3;bit 0 to 1;farm 0 mood 9;tells:farm=2 or mood=9;cut 0;", 5);
        due("tell(0, 0)", x.tell(0, 0), 0);
        due("mood(0, 0)", x.mood(0, 0), 9);
        due("a third one's bits don't count", x.joins(0, 1), -1);
        due("its own do", x.joins(0, 2), 1);
        due("the deed", x.joinBy(0, 2, 0), 200);
        String line = "farms 2 moments 4;bit 0 to 1;bit 1 to 2;bit 2 to 3;hears:";
        x = fine(line + "1=2;", 5);
        x.tell(0, 0);
        x.tell(0, 1);
        due("not heard", x.joins(0, 1), 2);
        due("first", x.joinBy(0, 1, 0), 100);
        due("second", x.joinBy(0, 1, 1), 101);
        x = fine("farms 3 moments 2;bit 0 to 1;hears:1=2;", 3);
        x.tell(2, 0);
        due("farm 1 tells", x.joinBy(2, 1, 0), 100);
        x = fine(line + "farm=mood;farm 1 mood 9;farm 0 mood 9;", 7);
        x.tell(0, 0);
        x.tell(0, 1);
        x.mood(0, 0);
        due("farm 0 hears farm 1", x.joins(0, 1), 1);
        due("so farm 1 tells", x.joinBy(0, 1, 0), 100);
        x.mood(0, 9);
        x.mood(1, 1);
        due("farm 1 hears farm 0", x.joins(1, 0), 1);
        due("so farm 0 tells", x.joinBy(1, 0, 0), 2);
    }

    static void theFewestDeedsTheFirst() {
        sentence("Terms", "the fewest, of like ones the first (as DEEDS).");
        PartyLine x = fine("farms 2 moments 3;bit 0 to 1;bit 0 to 2;bit 1 to 2;bit 2 to 1;cut 0;", 6);
        x.tell(0, 0);
        x.tell(1, 1);
        due("one bit", x.joins(0, 1), 1);
        due("farm 0's is the first", x.joinBy(0, 1, 0), 2);
        due("whoever is named first", x.joinBy(1, 0, 0), 2);
        x.undo(1);
        due("farm 1 follows", x.joinBy(0, 1, 0), 100);
        x = fine("farms 2 moments 3;bit 0 to 1;bit 0 to 1;bit 0 to 2;cut 0;", 5);
        x.tell(0, 1);
        due("the first of two that lead to the same", x.joinBy(1, 0, 0), 100);
        x = fine("farms 2 moments 3;bit 1 to 0;bit 1 to 2;bit 2 to 0;cut 0;now 1;", 6);
        x.tell(0, 0);
        due("back at moment 0: one bit", x.joins(0, 1), 1);
        due("by bit 0", x.joinBy(0, 1, 0), 100);
        x = fine("farms 2 moments 8;bit 0 to 1;bit 1 to 2;bit 2 to 3;bit 3 to 0;bit 4 to 5;bit 5 to 6;bit 6 to 7;bit 7 to 3;bit 0 to 4;"
            + "tells:farm=0 and bit<4 or farm=1 and bit>3;hears:1=2;", 12);
        x.tell(1, 8);
        int[] deeds = {0, 1, 2, 104, 105, 106, 107, -1};
        due("both have far to go", x.joins(0, 1), 7);
        for (int i = 0; i < deeds.length; i++) {
            due("deed " + i, x.joinBy(0, 1, i), deeds[i]);
        }
    }

    // ---- what was told

    static void seenOneToTwelve() {
        sentence("Terms", "SEEN in a TRAY (1 to 12 numbers: MOMENTS behind each BIT that was told; NONE: not heard):");
        String text = "farms 2 moments 3;bit 0 to 0;bit 0 to 1;bit 1 to 0;";
        PartyLine x = fine(text, 4);
        Check.lay(x, 0, 0, 0);
        due("one", x.rows(0, 0), 1);
        Check.lay(x, 0, 0, times(12, 0));
        due("twelve", x.rows(0, 0), 1);
        Check.lay(x, 0, 0, -1, -1, 1);
        due("two not heard", x.rows(0, 0), 2);
        Check.lay(x, 0, 0, 2);
        due("a moment to which nothing leads", x.rows(0, 0), 0);
        refusedIn(withTray(), "none", y -> y.rows(1, 0), -4);
        refusedIn(withTray(times(13, -1)), "thirteen", y -> y.rows(1, 0), -4);
        refusedIn(withTray(-1, 4), "no moment", y -> y.rows(1, 0), -3);
        refusedIn(withTray(-1, -2), "nor NONE", y -> y.rows(1, 0), -3);
    }

    static void rowsFromAMomentOn() {
        sentence("Terms", "rows of as many BITS, from a told MOMENT on, each such that some FARM MAY tell it.");
        PartyLine x = fine("farms 2 moments 4;bit 0 to 1;bit 1 to 2;bit 3 to 2;bit 0 to 1;tells:not bit=3 or mood=4;", 6);
        Check.lay(x, 0, 2, -1, 2);
        due("each from where the one ahead leads to", x.rows(0, 0), 1);
        due("from 1 none", x.rows(0, 1), 0);
        Check.lay(x, 0, 2, 2);
        due("from 1", x.rows(0, 1), 1);
        due("from 3", x.rows(0, 3), 1);
        due("from 0 none", x.rows(0, 0), 0);
        Check.lay(x, 0, 2, 1, 2);
        due("bit 3 nobody may tell", x.rows(0, 0), 1);
        due("mood(1, 4)", x.mood(1, 4), 0);
        due("bit 3 some one may tell", x.rows(0, 0), 2);
    }

    static void toldOneToTwelve() {
        sentence("Terms", "TOLD in a TRAY (1 to 12 BITS, one behind the other): rows of FARMS, each MAY tell its BIT, "
            + "none two BITS one behind the other.");
        PartyLine x = fine("farms 2 moments 2;bit 0 to 1;bit 1 to 0;bit 0 to 0;tells:not[farm=0 and bit=2];", 5);
        Check.lay(x, 0, 0, 1);
        due("one", x.tellers(0), 2);
        Check.lay(x, 0, 0, times(12, 1));
        due("twelve", x.tellers(0), 2);
        Check.lay(x, 0, 0, 2);
        due("farm 0 may not", x.tellers(0), 1);
        Check.lay(x, 0, 0, 2, 2);
        due("none two", x.tellers(0), 0);
        Check.lay(x, 0, 0, 2, 0, 2);
        due("farm 1 twice, but not one behind the other", x.tellers(0), 1);
        refusedIn(withTray(), "none", y -> y.tellers(1), -4);
        refusedIn(withTray(times(13, 0)), "thirteen", y -> y.tellers(1), -4);
        refusedIn(withTray(0, 5), "no bit", y -> y.tellers(1), -3);
        refusedIn(withTray(0, -1), "NONE is no bit", y -> y.tellers(1), -3);
    }

    // ---- snow and winters

    static void snowfall() {
        sentence("Terms", "SNOW: each WIRE that isn't CUT is CUT as likely as told, each by itself: "
            + "how likely two FARMS have no CUT WIRE between them then, in lowest terms.");
        PartyLine x = fine("farms 5 moments 2;snow 2 at 0;snow 5 at 1;snow 0 at 2;snow 10 at 3;", 5);
        int[][] rows = {{0, 1, 4, 5}, {1, 2, 1, 2}, {0, 2, 2, 5}, {2, 3, 1, 1}, {1, 3, 1, 2}, {3, 4, 0, 1}, {0, 4, 0, 1}, {4, 3, 0, 1}, {2, 0, 2, 5}};
        for (int[] row : rows) {
            due("above of " + row[0] + ", " + row[1], x.snow(row[0], row[1], 0), row[2]);
            due("below of " + row[0] + ", " + row[1], x.snow(row[0], row[1], 1), row[3]);
        }
        x.cut(1);
        due("cut already: above", x.snow(0, 2, 0), 0);
        due("cut already: below", x.snow(0, 2, 1), 1);
        due("the cut wire isn't between: above", x.snow(0, 1, 0), 4);
        due("the cut wire isn't between: above", x.snow(2, 3, 0), 1);
    }

    private static int deedOf(long[] x) {
        int sort = draw(x) % 5;
        if (sort < 2) {
            return -1;
        }
        int which = draw(x) % 8;
        return sort == 3 ? 1000 + which : sort == 2 ? which * 100 + draw(x) % 12 : 2000 + which * 10 + draw(x) % 10;
    }

    /** The draw once more, in longs of which 32 bits are kept. */
    private static int draw(long[] x) {
        x[0] = (1103515245L * x[0] + 12345L) % 4294967296L;
        return (int) (x[0] / 65536);
    }

    private static final String WINTRY = "farms 5 moments 3;bit 0 to 1;bit 1 to 2;bit 2 to 0;bit 0 to 2;tells:not farm=mood;";

    /** A winter and the same deeds one by one. */
    private static void winter(int seed, int times) {
        PartyLine x = Check.made(WINTRY);
        PartyLine y = Check.made(WINTRY);
        long[] drawn = {seed & 4294967295L};
        int could = 0;
        for (int i = 0; i < times; i++) {
            Check.lay(y, 0, 3, deedOf(drawn));
            could += y.perform(0);
        }
        due("winter(" + seed + ", " + times + ")", x.winter(seed, times), could);
        due("it is one call", x.count(8), could > 0 ? 1 : 0);
        for (int what = 4; what <= 7; what++) {
            due("count(" + what + ") behind it", x.count(what), y.count(what));
        }
        for (int f = 0; f < 5; f++) {
            for (int what = 0; what <= 2; what++) {
                due("farm(" + f + ", " + what + ") behind it", x.farm(f, what), y.farm(f, what));
            }
        }
        if (could > 0) {
            due("undo(1)", x.undo(1), 0);
        }
        Check.holds("undone as a whole", Check.sight(x).equals(Check.sight(Check.made(WINTRY))));
    }

    static void seedsAndDraws() {
        sentence("Terms", "A WINTER by a SEED (x, an int; a DRAW: x becomes 1103515245 x + 12345, it is x >>> 16):");
        for (int seed : new int[] {0, 1, -1, 65535, 65536, Integer.MAX_VALUE, Integer.MIN_VALUE, Integer.MIN_VALUE + 1, 1103515245, -12345}) {
            winter(seed, 40);
        }
    }

    static void oneToFortyTimes() {
        sentence("Terms", "so many times (1 to 40):");
        winter(7, 1);
        winter(7, 2);
        winter(7, 39);
        winter(7, 40);
        for (int times : new int[] {0, -1, 41, Integer.MIN_VALUE, Integer.MAX_VALUE}) {
            refused("winter(7, " + times + ")", x -> x.winter(7, times), -3);
        }
    }

    static void fiveSortsOfDraws() {
        sentence("Terms", "DRAW modulo 5: 0, 1 a TURN; 2 FARM DRAW modulo 8 TELLS BIT DRAW modulo 12; 3 WIRE DRAW modulo 8 as in a TRAY; "
            + "4 FARM DRAW modulo 8 has MOOD DRAW modulo 10; if it can be.");
        int[] could = new int[5];
        int[] couldNot = new int[5];
        for (int seed = 0; seed < 400; seed++) {
            int sort = draw(new long[] {seed}) % 5;
            PartyLine x = Check.made(WINTRY);
            if (x.winter(seed, 1) == 1) {
                could[sort]++;
            } else {
                couldNot[sort]++;
            }
            winter(seed, 1);
        }
        for (int sort = 0; sort < 5; sort++) {
            Check.holds("some of sort " + sort + " could be", could[sort] > 0);
            Check.holds("some of sort " + sort + " could not be, but for turns", couldNot[sort] > 0 == sort > 1);
        }
    }

    // ---- trays and images

    static void fourTraysOfFortyNumbers() {
        sentence("Terms", "TRAYS 0 to 3 are MISSING at first, or have 0 to 40 numbers");
        for (int tray = 0; tray < 4; tray++) {
            int t = tray;
            refusedIn(PartyLine::new, "write to tray " + t + " at first", x -> x.write(t, 0, 1), -6);
            PartyLine x = new PartyLine();
            due("none in tray " + t, x.numbers(t, 0, 0), 0);
            due("no place", x.write(t, 0, 1), -7);
            due("forty in tray " + t, x.numbers(t, 0, 40), 0);
            due("the last place", x.write(t, 39, 1), 1);
            due("behind it", x.write(t, 40, 1), -7);
            refused("forty-one in tray " + t, y -> y.numbers(t, 0, 41), -3);
            refused("less than none in tray " + t, y -> y.numbers(t, 0, -1), -3);
        }
        refused("tray -1", x -> x.numbers(-1, 0, 1), -2);
        refused("tray 4", x -> x.numbers(4, 0, 1), -2);
    }

    static void sortsOfTrays() {
        sentence("Terms", "of 8 bits (sort 0), 16 (1), 32 (2), 64 (3).");
        long[] most = {127, 32767, 2147483647L, Long.MAX_VALUE};
        for (int sort = 0; sort < 4; sort++) {
            PartyLine x = new PartyLine();
            due("sort " + sort, x.numbers(0, sort, 1), 0);
            due("the most", x.write(0, 0, most[sort]), most[sort]);
            due("one more", x.write(0, 0, most[sort] + 1), -most[sort] - 1);
            due("the least", x.write(0, 0, -most[sort] - 1), -most[sort] - 1);
            due("one less", x.write(0, 0, -most[sort] - 2), most[sort]);
            due("NONE", x.write(0, 0, -1), -1);
            due("twice as many and one", x.write(0, 0, most[sort] * 2 + 2), 0);
        }
        refused("sort -1", x -> x.numbers(0, -1, 1), -2);
        refused("sort 4", x -> x.numbers(0, 4, 1), -2);
    }

    static void twoImages() {
        sentence("Terms", "IMAGES 0 to 1: THE LINE and what a call could bring back by UNDOING; nothing can be UNDONE behind (none at first).");
        refusedIn(PartyLine::new, "restore(0) at first", x -> x.restore(0), -5);
        refusedIn(PartyLine::new, "restore(1) at first", x -> x.restore(1), -5);
        for (int image : new int[] {0, 1}) {
            PartyLine x = Scene.lived();
            due("image(" + image + ")", x.image(image), 0);
            due("what can be undone stays", x.count(8), 6);
            Check.line(x, "farms 5 moments 5;bit 4 to 4;");
            x.go(2);
            due("restore(" + image + ")", x.restore(image), 0);
            due("nothing can be undone", x.count(8), 0);
            due("undo(1)", x.undo(1), -3);
            PartyLine y = Scene.lived();
            for (int what : new int[] {0, 1, 2, 3, 4, 5, 6, 7, 10}) {
                due("count(" + what + ")", x.count(what), y.count(what));
            }
        }
        refused("image(-1)", x -> x.image(-1), -2);
        refused("image(2)", x -> x.image(2), -2);
    }

    // ---- refused calls

    static void refusedCallsChangeNothing() {
        sentence("Terms", "Refused calls answer by a code and change nothing:");
        refused("all refused calls one behind the other", AskingEdgesTest::allRefused, 0);
    }

    /** Calls all of which are refused: how many were not. */
    private static long allRefused(PartyLine x) {
        long[] answers = {x.line(-1), x.line(41), x.farm(3, 0), x.farm(0, 6), x.bit(5, 0), x.bit(0, 4), x.wire(2, 0), x.wire(0, 2),
            x.likes(3, 0), x.likes(0, 4), x.tell(3, 0), x.tell(0, 5), x.tell(0, 0), x.tell(1, 3), x.cut(2), x.mood(3, 0), x.mood(0, 10),
            x.go(0), x.go(100), x.undo(0), x.undo(7), x.undo(11), x.judge(4, 0), x.judge(0, 4), x.judge(3, 0), x.perform(4), x.perform(3),
            x.winter(1, 0), x.winter(1, 41), x.heardBy(3), x.needs(0, 0), x.needs(0, 3), x.reach(4), x.fewest(4, 0), x.fewest(0, 4),
            x.way(4, 0, 0), x.way(0, 0, -1), x.ways(4, 0, 0), x.ways(0, 0, 16), x.full(0, 4), x.fullWay(4, 0, 0), x.fullWay(0, 0, -1),
            x.forces(3, 0), x.forces(0, 4), x.power(3), x.best(3, 0), x.best(0, 0), x.ally(3, 0), x.ally(0, 4), x.joins(0, 0), x.joins(0, 3),
            x.joinBy(0, 0, 0), x.joinBy(0, 1, -1), x.rows(4, 0), x.rows(1, 4), x.rows(3, 0), x.rows(0, 0), x.sureBit(4, 0, 0),
            x.sureBit(3, 0, 0), x.sureBit(1, 0, 3), x.tellers(4), x.tellers(3), x.tellers(0), x.teller(4, 0), x.teller(3, 0), x.teller(2, 3),
            x.snow(0, 0, 0), x.snow(0, 1, 2), x.left(3, 0), x.left(0, 101), x.numbers(4, 0, 0), x.numbers(0, 4, 0), x.numbers(0, 0, 41),
            x.write(4, 0, 0), x.write(3, 0, 0), x.write(0, 5, 0), x.lists(4, 0, 0), x.lists(0, 4, 0), x.lists(3, 0, 0), x.lists(0, 3, 0),
            x.image(2), x.restore(2), x.restore(1)};
        long taken = 0;
        for (long answer : answers) {
            taken += answer < -1 ? 0 : 1;
        }
        return taken;
    }

    static void noneSuch() {
        sentence("Terms", "-2 there is none such;");
        due("farm 2", Scene.lived().farm(2, 0), 3);
        refused("farm 3", x -> x.farm(3, 0), -2);
        due("moment 3", Scene.lived().reach(3), 8);
        refused("moment 4", x -> x.reach(4), -2);
        due("bit 4", Scene.lived().bit(4, 0), 1);
        refused("bit 5", x -> x.bit(5, 0), -2);
    }

    static void aNumberCannotBe() {
        sentence("Terms", "-3 a number can't be;");
        due("99 turns", Scene.lived().go(99), 1);
        refused("100 turns", x -> x.go(100), -3);
        due("15 bits", Scene.lived().ways(3, 3, 15), 0);
        refused("16 bits", x -> x.ways(3, 3, 16), -3);
    }

    static void tooMany() {
        sentence("Terms", "-4 too many;");
        due("twelve", withTray(times(12, -1)).get().rows(1, 3), 0);
        refusedIn(withTray(times(13, -1)), "thirteen", x -> x.rows(1, 3), -4);
        refusedIn(withTray(times(40, 0)), "forty", x -> x.tellers(1), -4);
    }

    static void notNow() {
        sentence("Terms", "-5 it can't be now;");
        due("its turn", Scene.lived().best(1, 2), -1);
        refused("not its turn", x -> x.best(0, 2), -5);
        due("it was made", Scene.lived().restore(0), 0);
        refused("it wasn't made", x -> x.restore(1), -5);
    }

    static void aTrayIsMissing() {
        sentence("Terms", "-6 a TRAY is MISSING;");
        due("tray 2 is there", Scene.lived().judge(2, 0), 0);
        refused("tray 3 is missing: judge", x -> x.judge(3, 0), -6);
        refused("tray 3 is missing: perform", x -> x.perform(3), -6);
        refused("tray 3 is missing: write", x -> x.write(3, 0, 0), -6);
        due("an empty one isn't missing", withTray().get().perform(1), 0);
    }

    static void noSuchNumber() {
        sentence("Terms", "-7 it has no such number;");
        due("place 4 of five", Scene.lived().write(0, 4, 1), 1);
        refused("place 5 of five", x -> x.write(0, 5, 1), -7);
        refused("place -1", x -> x.write(0, -1, 1), -7);
    }

    static void whyNotAsACode() {
        sentence("Terms", "-11 to -13 why not (1 to 3);");
        refused("1", x -> x.tell(3, 3), -11);
        refused("2", x -> x.tell(0, 0), -12);
        refused("3", x -> x.tell(1, 3), -13);
        due("none", Scene.lived().tell(0, 3), 1);
    }

    static void aTextWithAFault() {
        sentence("Terms", "-30 less the FAULT: a text.");
        faulty(1, "farms 2 moments 2;^@");
        faulty(2, "farms 2 moments 2^");
        faulty(3, "farms 2 moments 2;now ^2;");
        faulty(4, "farms 2 moments 2;likes:((((((^(");
        fine("farms 2 moments 2;", 1);
    }

    static void whichTheCallTellsFirst() {
        sentence("Terms", "(Of several that which the call tells first; all these ahead of NONE.)");
        refused("way: -2 ahead of -3", x -> x.way(4, 0, -1), -2);
        refused("way: -3 ahead of NONE", x -> x.way(3, 0, -1), -3);
        refused("fullWay: -2 ahead of -3", x -> x.fullWay(0, 4, -1), -2);
        refused("fullWay: -3 ahead of NONE", x -> x.fullWay(3, 0, -1), -3);
        refused("ways: -2 ahead of -3", x -> x.ways(0, 4, 16), -2);
        refused("best: -2 ahead of -5", x -> x.best(0, 4), -2);
        refused("best: -5 ahead of NONE", x -> x.best(0, 0), -5);
        refused("joinBy: -2 ahead of -3", x -> x.joinBy(0, 0, -1), -2);
        refused("joinBy: -3 ahead of NONE", x -> x.joinBy(0, 1, -1), -3);
        refused("judge: -2 ahead of -6", x -> x.judge(3, 4), -2);
        refused("rows: -2 ahead of -6", x -> x.rows(3, 4), -2);
        refusedIn(withTray(times(13, 9)), "rows: -4 ahead of -3", x -> x.rows(1, 0), -4);
        refused("sureBit: -2 ahead of -6", x -> x.sureBit(3, 4, -1), -2);
        refused("sureBit: -6 ahead of -7", x -> x.sureBit(3, 0, -1), -6);
        refusedIn(withTray(times(13, 9)), "sureBit: -4 ahead of -3", x -> x.sureBit(1, 0, 99), -4);
        refusedIn(withTray(4), "sureBit: -3 ahead of -7", x -> x.sureBit(1, 0, 99), -3);
        refused("sureBit: -7 ahead of NONE", x -> x.sureBit(1, 3, 3), -7);
        refusedIn(withTray(times(13, 9)), "tellers: -4 ahead of -3", x -> x.tellers(1), -4);
        refused("teller: -6 ahead of -7", x -> x.teller(3, -1), -6);
        refusedIn(withTray(times(13, 9)), "teller: -4 ahead of -3", x -> x.teller(1, 99), -4);
        refusedIn(withTray(5), "teller: -3 ahead of -7", x -> x.teller(1, 99), -3);
        refused("left: -2 ahead of -3", x -> x.left(3, 101), -2);
        refused("numbers: -2 ahead of -3", x -> x.numbers(4, 0, 41), -2);
        refused("numbers: -2, of a sort, ahead of -3", x -> x.numbers(0, 4, 41), -2);
        refused("write: -2 ahead of -6, -7", x -> x.write(4, 99, 0), -2);
        refused("write: -6 ahead of -7", x -> x.write(3, 99, 0), -6);
        refused("lists: -2 ahead of -6", x -> x.lists(3, 4, 0), -2);
        refused("lists: -6 ahead of -5", x -> x.lists(3, 3, 0), -6);
        refused("tell: -11 ahead of -12", x -> x.tell(3, 0), -11);
        refusedIn(() -> Check.made(Scene.TEXT), "tell: -12 ahead of -13", x -> x.tell(1, 3), -12);
    }

    static void likesHasACodeOfItsOwn() {
        sentence("Terms", "likes(): -99000002.");
        due("farm 2, moment 3", Scene.lived().likes(2, 3), 4);
        due("likes less than nothing", Scene.lived().likes(2, 0), -2);
        refused("farm 3", x -> x.likes(3, 3), -99000002);
        refused("moment 4", x -> x.likes(2, 4), -99000002);
    }
}
