/** The boundary cases of "Terms", ==== 2: hearing, telling, liking, turns, deeds in trays, undoing. */
public final class TellingEdgesTest extends Edges {
    private static final String ALL_CAN = "farms 8 moments 2;" + "bit 0 to 0;".repeat(12);

    private TellingEdgesTest() {
    }

    public static void main(String[] args) throws Exception {
        runAll(TellingEdgesTest.class);
    }

    private static void heard(String what, PartyLine x, int... farms) {
        for (int f = 0; f < farms.length; f++) {
            due(what + ": whom farm " + f + " hears", x.farm(f, 4), farms[f]);
        }
    }

    private static void thought(String what, PartyLine x, int... moments) {
        for (int f = 0; f < moments.length; f++) {
            due(what + ": moment of farm " + f, x.farm(f, 0), moments[f]);
        }
    }

    private static void doubted(String what, PartyLine x, int... doubts) {
        for (int f = 0; f < doubts.length; f++) {
            due(what + ": doubts of farm " + f, x.farm(f, 1), doubts[f]);
        }
    }

    /** Why a deed of a tray can't be, and that it is or isn't done accordingly. */
    private static void deed(PartyLine x, long v, int why) {
        x.numbers(3, 3, 1);
        x.write(3, 0, v);
        due("the place of " + v, x.judge(3, 0), why == 0 ? -1 : 0);
        due("why not " + v, x.judge(3, 1), why);
        int told = x.count(6);
        due("perform of " + v, x.perform(3), why == 0 ? 1 : 0);
        due("bits told by " + v, x.count(6) - told, why == 0 && v >= 0 && v < 900 ? 1 : 0);
    }

    // ---- hearing, telling, liking by laws

    static void aCutWireBetween() {
        sentence("Terms", "A FARM HEARS another one, if no WIRE between them is CUT, and the law hears holds (without one: always):");
        PartyLine x = fine("farms 8 moments 2;", 1);
        heard("all others, never itself", x, 254, 253, 251, 247, 239, 223, 191, 127);
        x.cut(3);
        heard("wire 3 is cut", x, 14, 13, 11, 7, 224, 208, 176, 112);
        x.cut(0);
        x.cut(6);
        heard("wires at the ends, too", x, 0, 12, 10, 6, 96, 80, 48, 0);
        x = fine("farms 4 moments 2;hears:far<2;", 2);
        heard("a law", x, 2, 5, 10, 4);
        x.cut(1);
        heard("a law and a cut wire", x, 2, 1, 8, 4);
        heard("a law that never holds", fine("farms 3 moments 2;hears:1=2;", 2), 0, 0, 0);
        heard("a law that always holds", fine("farms 3 moments 2;hears:1=1;", 2), 6, 5, 3);
    }

    static void wordsOfHears() {
        sentence("Terms", "farm: who listens, mood: its MOOD, teller: the other one, far: how many WIRES are between.");
        heard("far = 7", fine("farms 8 moments 2;hears:far=7;", 2), 128, 0, 0, 0, 0, 0, 0, 1);
        heard("far = 1", fine("farms 4 moments 2;hears:far=1;", 2), 2, 5, 10, 4);
        heard("far = 0", fine("farms 4 moments 2;hears:far=0;", 2), 0, 0, 0, 0);
        heard("farm = 2", fine("farms 4 moments 2;hears:farm=2;", 2), 0, 0, 11, 0);
        heard("teller = 2", fine("farms 4 moments 2;hears:teller=2;", 2), 4, 4, 0, 4);
        PartyLine x = fine("farms 4 moments 2;farm 3 mood 5;hears:mood=5;", 3);
        heard("mood = 5", x, 0, 0, 0, 7);
        x.mood(3, 4);
        x.mood(0, 5);
        heard("as moods are now", x, 14, 0, 0, 0);
    }

    static void wordsOfTells() {
        sentence("Terms", "A FARM MAY tell a BIT, if the law tells holds (without one: always): farm, mood, bit: its number, "
            + "from, to: its MOMENTS.");
        String two = "farms 8 moments 8;farm 1 mood 9;bit 7 to 0;bit 3 to 7;";
        String[] laws = {"", "tells:1=2;", "tells:bit=0;", "tells:bit=1;", "tells:from=7;", "tells:to=7;", "tells:farm=7;", "tells:mood=9;"};
        int[] first = {255, 0, 255, 0, 255, 0, 128, 2};
        int[] second = {255, 0, 0, 255, 0, 255, 128, 2};
        for (int i = 0; i < laws.length; i++) {
            PartyLine x = fine(two + laws[i], laws[i].isEmpty() ? 4 : 5);
            due("bit 0 by " + laws[i], x.bit(0, 3), first[i]);
            due("bit 1 by " + laws[i], x.bit(1, 3), second[i]);
        }
        PartyLine x = fine(two + "tells:mood=9;", 5);
        x.mood(1, 8);
        x.mood(6, 9);
        due("as moods are now", x.bit(0, 3), 64);
    }

    static void wordsOfLikes() {
        sentence("Terms", "A FARM LIKES a MOMENT so much as the law likes tells (without one: 1, if it is its WISH, else 0): farm, mood, moment.");
        PartyLine x = fine("farms 2 moments 3;farm 1 wish 2;", 2);
        int[][] wished = {{1, 0, 0}, {0, 0, 1}};
        PartyLine y = fine("farms 2 moments 3;farm 1 wish 2 mood 5;likes:farm*100+mood*10+moment;", 3);
        int[][] liked = {{0, 1, 2}, {150, 151, 152}};
        for (int f = 0; f < 2; f++) {
            for (int m = 0; m < 3; m++) {
                due("without a law: farm " + f + ", moment " + m, x.likes(f, m), wished[f][m]);
                due("by a law: farm " + f + ", moment " + m, y.likes(f, m), liked[f][m]);
            }
        }
        y.mood(1, 6);
        due("as moods are now", y.likes(1, 2), 162);
    }

    static void keptWithinAMillion() {
        sentence("Terms", "Each + - * is kept from -1,000,000 to 1,000,000.");
        String[] laws = {"999*999+999+999", "999*999+999+999+1", "999*999+999+999+2", "999*999+999+999+9-1", "999*999+999*999-1",
            "0-999*999-999-999", "0-999*999-999-999-1", "0-999*999-999-999-2", "0-999*999-999-999-9+1", "0-999*999-999*999+1",
            "999*999-(0-999*999)-1", "(0-999*999)+(0-999*999)+1",
            "(999+1)*999", "(999+1)*(999+1)", "(999+1)*(999+2)", "(999+1)*(999+2)-1", "(0-999-1)*(999+1)", "(0-999-2)*(999+1)",
            "(0-999-2)*(999+1)+1", "(0-999-2)*(0-999-2)-1", "(999+1)*(999+1)*((999+1)*(999+1))", "(999+1)*(999+1)*((0-999-1)*(999+1))",
            "999*999*999*999*999*999*999-999*999*999"};
        int[] kept = {999999, 1000000, 1000000, 999999, 999999,
            -999999, -1000000, -1000000, -999999, -999999,
            999999, -999999,
            999000, 1000000, 1000000, 999999, -1000000, -1000000,
            -999999, 999999, 1000000, -1000000,
            0};
        for (int i = 0; i < laws.length; i++) {
            due(laws[i], fine("farms 2 moments 2;likes:" + laws[i] + ";", 2).likes(0, 0), kept[i]);
        }
        String million = "farms 2 moments 2;bit 0 to 1;tells:999*999*999=";
        due("a truth with what is kept", fine(million + "999*999*998;", 3).bit(0, 3), 3);
        due("just below", fine(million + "999*999*998-1;", 3).bit(0, 3), 0);
    }

    // ---- telling and turns

    static void eachItsMoment() {
        sentence("Terms", "Each FARM has the MOMENT it thinks the tale is at.");
        PartyLine x = fine("farms 8 moments 8;bit 0 to 1;bit 1 to 2;bit 2 to 3;bit 3 to 4;bit 4 to 5;bit 5 to 6;bit 6 to 7;hears:1=2;", 9);
        for (int f = 0; f < 8; f++) {
            for (int b = 0; b < f; b++) {
                due("tell", x.tell(f, b), 0);
            }
        }
        thought("each its own", x, 0, 1, 2, 3, 4, 5, 6, 7);
        due("unlike ones", x.tales(), 8);
    }

    static void toTell() {
        sentence("Terms", "To TELL: a FARM whose MOMENT is the one a BIT is from tells it: its MOMENT is the one the BIT leads to, "
            + "so is that of each who HEARS it;");
        PartyLine x = fine("farms 3 moments 4;bit 0 to 1;bit 1 to 2;bit 0 to 3;bit 2 to 2;", 5);
        due("all hear", x.tell(0, 0), 2);
        thought("all hear", x, 1, 1, 1);
        due("another moment", x.tell(0, 2), -12);
        x.cut(1);
        due("one hears", x.tell(0, 1), 1);
        thought("one hears", x, 2, 2, 1);
        x.cut(0);
        due("none hears", x.tell(2, 1), 0);
        thought("none hears", x, 2, 2, 2);
        due("to where it is from", x.tell(1, 3), 0);
        thought("to where it is from", x, 2, 2, 2);
    }

    static void whoDoubts() {
        sentence("Terms", "who HEARS it and whose MOMENT wasn't the one it is from DOUBTS once more.");
        PartyLine x = fine("farms 4 moments 3;bit 0 to 1;bit 1 to 2;bit 0 to 2;bit 2 to 0;", 5);
        x.cut(2);
        due("tell(0, 0)", x.tell(0, 0), 2);
        doubted("all were where it is from", x, 0, 0, 0, 0);
        x.cut(0);
        due("tell(0, 1)", x.tell(0, 1), 0);
        x.cut(0);
        x.cut(2);
        thought("unlike", x, 2, 1, 1, 0);
        due("tell(2, 1)", x.tell(2, 1), 3);
        doubted("two weren't, even one that was where it leads to", x, 1, 0, 0, 1);
        x.cut(1);
        due("tell(0, 3)", x.tell(0, 3), 1);
        x.cut(1);
        due("tell(3, 3)", x.tell(3, 3), 3);
        doubted("once more", x, 2, 1, 0, 1);
        due("all doubts", x.count(7), 4);
    }

    static void aTurn() {
        sentence("Terms", "A TURN: the FARM whose TURN it is (FARM 0 at first) TELLS its first BIT that it can; if there is none, it is silent;");
        PartyLine x = fine("farms 3 moments 4;bit 1 to 2;bit 0 to 3;bit 0 to 1;tells:not[farm=0 and bit=1];hears:1=2;", 6);
        due("the turn at first", x.count(5), 0);
        due("go(1)", x.go(1), 1);
        thought("its first bit that it can: neither bit 0 nor bit 1", x, 1, 0, 0);
        due("go(1)", x.go(1), 1);
        thought("that of another one", x, 1, 3, 0);
        due("go(2)", x.go(2), 2);
        thought("the first of all", x, 2, 3, 3);
        due("silent", x.go(3), 0);
        thought("silent", x, 2, 3, 3);
    }

    static void turnsGoRound() {
        sentence("Terms", "the TURN is the next one's (behind the last one FARM 0's).");
        for (int farms : new int[] {2, 3, 8}) {
            PartyLine x = fine("farms " + farms + " moments 2;bit 0 to 0;tells:farm=1;", 3);
            for (int i = 0; i < 2 * farms; i++) {
                due("the turn behind " + i, x.count(5), i % farms);
                due("a turn", x.go(1), i % farms == 1 ? 1 : 0);
            }
        }
        PartyLine x = fine("farms 2 moments 2;bit 0 to 0;", 2);
        x.tell(1, 0);
        due("a bit told is no turn", x.count(5), 0);
    }

    static void whyNot() {
        sentence("Terms", "Why not: 1 no such FARM, BIT, WIRE, number. 2 the MOMENT isn't the one it is from. 3 it MAY not.");
        refused("farm 3", x -> x.tell(3, 3), -11);
        refused("bit 5", x -> x.tell(0, 5), -11);
        refused("wire 2", x -> x.cut(2), -11);
        refused("mood 10", x -> x.mood(0, 10), -11);
        refused("another moment, though it may", x -> x.tell(0, 2), -12);
        refusedIn(() -> Check.made(Scene.TEXT), "another moment, and it may not", x -> x.tell(1, 3), -12);
        refused("it may not", x -> x.tell(1, 3), -13);
        due("it may", Scene.lived().tell(0, 3), 1);
    }

    // ---- deeds in a tray

    static void deedsThatTell() {
        sentence("Terms", "DEEDS in a TRAY: 0 to 899: FARM v by 100 TELLS BIT v modulo 100;");
        PartyLine x = fine(ALL_CAN, 13);
        for (int v : new int[] {0, 11, 100, 111, 700, 711}) {
            deed(x, v, 0);
        }
        for (int v : new int[] {-2, 12, 99, 112, 199, 712, 799, 800, 811, 899, 900}) {
            deed(x, v, 1);
        }
        x = fine("farms 3 moments 2;bit 0 to 0;bit 0 to 1;bit 1 to 0;tells:not[farm=2 and bit=1];hears:1=2;", 6);
        deed(x, 200, 0);
        deed(x, 300, 1);
        deed(x, 203, 1);
        deed(x, 202, 2);
        deed(x, 201, 3);
        deed(x, 101, 0);
        thought("farm 1 told bit 1", x, 0, 1, 0);
    }

    static void deedsThatCut() {
        sentence("Terms", "1000 to 1009: WIRE v - 1000 is CUT, or whole again;");
        PartyLine x = fine(ALL_CAN, 13);
        deed(x, 1000, 0);
        deed(x, 1006, 0);
        due("cut", x.count(4), 65);
        deed(x, 1006, 0);
        due("whole again", x.count(4), 1);
        for (int v : new int[] {999, 1007, 1008, 1009, 1010}) {
            deed(x, v, 1);
        }
        due("no other one", x.count(4), 1);
        x = fine("farms 2 moments 2;", 1);
        deed(x, 1000, 0);
        deed(x, 1001, 1);
    }

    static void deedsOfMoods() {
        sentence("Terms", "2000 to 2099: FARM (v - 2000) by 10 has MOOD v modulo 10;");
        PartyLine x = fine(ALL_CAN, 13);
        deed(x, 2009, 0);
        due("mood 9 of farm 0", x.farm(0, 2), 9);
        deed(x, 2000, 0);
        due("mood 0 of farm 0", x.farm(0, 2), 0);
        deed(x, 2079, 0);
        due("mood 9 of farm 7", x.farm(7, 2), 9);
        for (int v : new int[] {1999, 2080, 2099, 2100, 2110}) {
            deed(x, v, 1);
        }
        for (int f = 0; f < 8; f++) {
            deed(x, 2000 + f * 10 + 9 - f, 0);
            due("mood " + (9 - f) + " of farm " + f, x.farm(f, 2), 9 - f);
        }
        x = fine("farms 2 moments 2;", 1);
        deed(x, 2019, 0);
        deed(x, 2020, 1);
    }

    static void deedsThatAreTurns() {
        sentence("Terms", "NONE: a TURN;");
        PartyLine x = fine("farms 2 moments 2;bit 0 to 0;tells:farm=0;", 3);
        Check.lay(x, 0, 0, -1, -1, -1);
        due("three turns", x.perform(0), 3);
        due("two of them told", x.count(6), 2);
        due("the turn", x.count(5), 1);
        x = fine("farms 2 moments 2;", 1);
        deed(x, -1, 0);
        due("silent, yet a turn", x.count(5), 1);
        deed(x, -2, 1);
        due("no turn", x.count(5), 1);
    }

    static void otherDeeds() {
        sentence("Terms", "others: 1.");
        PartyLine x = null;
        for (int v = -3; v <= 2103; v++) {
            if ((v + 3) % 100 == 0) {
                x = fine(ALL_CAN, 13);
                x.numbers(0, 1, 1);
            }
            boolean tells = v >= 0 && v <= 899 && v / 100 < 8 && v % 100 < 12;
            boolean cuts = v >= 1000 && v <= 1006;
            boolean moods = v >= 2000 && v <= 2079;
            x.write(0, 0, v);
            due("why not " + v, x.judge(0, 1), tells || cuts || moods || v == -1 ? 0 : 1);
        }
        for (long v : new long[] {32767, -32768, 65535, Integer.MAX_VALUE, Integer.MIN_VALUE, 4294967295L, 4294967296L, 4294968296L,
            4294969296L, -4294967297L, -4294967296L, Long.MAX_VALUE, Long.MIN_VALUE}) {
            deed(x, v, 1);
        }
    }

    // ---- undoing

    static void callsThatDidSome() {
        sentence("Terms", "Calls that did some can be UNDONE each as a whole, the latest first,");
        PartyLine x = fine("farms 3 moments 3;bit 0 to 1;bit 1 to 2;", 3);
        due("none at first", x.count(8), 0);
        due("go(9)", x.go(9), 2);
        due("nine turns are one call", x.count(8), 1);
        Check.lay(x, 0, 1, 2011, 1000, 900, 1001);
        due("perform(0)", x.perform(0), 2);
        due("two deeds are one call", x.count(8), 2);
        due("perform(0) again: wire 0 is whole again", x.perform(0), 2);
        Check.lay(x, 0, 1, 900);
        due("a deed that can't be", x.perform(0), 0);
        Check.lay(x, 0, 1);
        due("no deeds", x.perform(0), 0);
        due("a refused one", x.tell(0, 0), -12);
        due("three calls", x.count(8), 3);
        due("undo(1)", x.undo(1), 2);
        due("the latest: wire 0 is cut", x.count(4), 1);
        due("undo(1)", x.undo(1), 1);
        due("wire 0 is whole", x.count(4), 0);
        due("mood of farm 1", x.farm(1, 2), 0);
        due("undo(1)", x.undo(1), 0);
        thought("all turns are undone", x, 0, 0, 0);
        due("silent turns are deeds", x.go(99), 2);
        due("silent turns alone", x.go(1), 0);
        due("two calls", x.count(8), 2);
    }

    static void tenAtMost() {
        sentence("Terms", "10 at most (eldest are forgotten):");
        PartyLine x = fine("farms 2 moments 2;", 1);
        for (int i = 1; i <= 9; i++) {
            x.mood(0, i);
            due("so many calls", x.count(8), i);
        }
        x.mood(1, 1);
        due("ten", x.count(8), 10);
        due("undo(10)", x.undo(10), 0);
        due("all are undone", x.farm(0, 2), 0);
        for (int i = 1; i <= 9; i++) {
            x.mood(0, i);
        }
        x.mood(1, 1);
        x.mood(1, 2);
        due("eleven", x.count(8), 10);
        due("undo(10)", x.undo(10), 0);
        due("the eldest was forgotten", x.farm(0, 2), 1);
        due("it can't be undone", x.undo(1), -3);
        for (int i = 0; i < 25; i++) {
            x.mood(1, i % 10);
        }
        due("twenty-five", x.count(8), 10);
        due("undo(9)", x.undo(9), 1);
        due("the sixteenth", x.farm(1, 2), 5);
        due("undo(1)", x.undo(1), 0);
        due("the fifteenth", x.farm(1, 2), 4);
    }

    static void whatIsUndone() {
        sentence("Terms", "MOMENTS, DOUBTS, MOODS, WIRES, the TURN, how many BITS were told.");
        PartyLine x = fine("farms 2 moments 3;bit 0 to 1;bit 1 to 2;bit 0 to 0;hears:far=mood;", 5);
        x.mood(1, 1);
        x.tell(0, 0);
        thought("farm 1 heard it", x, 1, 1);
        x.mood(1, 0);
        due("undo(2)", x.undo(2), 1);
        thought("moments are undone", x, 0, 0);
        due("the mood then", x.farm(1, 2), 1);
        due("undo(1)", x.undo(1), 0);
        due("moods are undone", x.farm(1, 2), 0);
        x = fine("farms 2 moments 3;bit 0 to 1;bit 1 to 2;bit 0 to 0;", 4);
        x.cut(0);
        x.tell(0, 0);
        x.cut(0);
        x.tell(1, 0);
        doubted("farm 0 doubts", x, 1, 0);
        x.go(1);
        due("the turn", x.count(5), 1);
        due("bits told", x.count(6), 3);
        due("undo(1)", x.undo(1), 4);
        due("the turn is undone", x.count(5), 0);
        due("bits told are undone", x.count(6), 2);
        due("undo(1)", x.undo(1), 3);
        doubted("doubts are undone", x, 0, 0);
        due("undo(1)", x.undo(1), 2);
        due("wires are undone", x.count(4), 1);
        due("undo(2)", x.undo(2), 0);
        due("wires are undone", x.count(4), 0);
    }
}
