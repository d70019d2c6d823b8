/** The boundary cases of promises 44 to 49: trays, images, counts. */
public final class TrayEdgesTest extends Edges {
    private static final String CHAIN = "farms 2 moments 5;bit 0 to 1;bit 1 to 2;bit 2 to 3;bit 3 to 4;";

    private TrayEdgesTest() {
    }

    public static void main(String[] args) throws Exception {
        runAll(TrayEdgesTest.class);
    }

    static void allZero() {
        sentence("Promise 44", "A TRAY has n numbers of a sort, all 0 (in place of another one): 0.");
        for (int tray = 0; tray < 4; tray++) {
            for (int sort = 0; sort < 4; sort++) {
                PartyLine x = fine("farms 2 moments 2;bit 0 to 0;", 2);
                due("numbers(" + tray + ", " + sort + ", 40)", x.numbers(tray, sort, 40), 0);
                due("all 0: farm 0 tells bit 0", x.perform(tray), 40);
                due("so often", x.count(6), 40);
                due("write", x.write(tray, 0, 127), 127);
                due("write", x.write(tray, 1, 127), 127);
                due("deed 127 can't be", x.judge(tray, 0), 0);
                due("in place of it, shorter", x.numbers(tray, sort, 1), 0);
                due("all 0", x.perform(tray), 1);
                due("behind its end", x.write(tray, 1, 0), -7);
                due("in place of it, longer", x.numbers(tray, 3 - sort, 2), 0);
                due("all 0", x.perform(tray), 2);
                due("no numbers", x.numbers(tray, sort, 0), 0);
                due("none", x.perform(tray), 0);
                due("no place", x.write(tray, 0, 0), -7);
            }
        }
        PartyLine x = Scene.lived();
        x.numbers(0, 0, 3);
        due("other trays stay", x.rows(1, 0), 1);
        due("other trays stay", x.tellers(2), 8);
    }

    static void numbersRefuses() {
        sentence("Promise 44", "-2: no such TRAY, sort; -3, and the TRAY stays: n is below 0 or above 40.");
        refused("numbers(4, 0, 1)", x -> x.numbers(4, 0, 1), -2);
        refused("numbers(0, 4, 1)", x -> x.numbers(0, 4, 1), -2);
        refused("numbers(4, 0, 41): -2 ahead of -3", x -> x.numbers(4, 0, 41), -2);
        refused("numbers(0, 4, 41): -2 ahead of -3", x -> x.numbers(0, 4, 41), -2);
        for (int wrong : WRONG) {
            refused("numbers(" + wrong + ", 0, 1)", x -> x.numbers(wrong, 0, 1), -2);
            refused("numbers(0, " + wrong + ", 1)", x -> x.numbers(0, wrong, 1), -2);
            refused("numbers(0, 0, " + wrong + ")", x -> x.numbers(0, 0, wrong), -3);
            refused("numbers(3, 0, " + wrong + "): it stays missing", x -> x.numbers(3, 0, wrong), -3);
        }
        refused("numbers(0, 0, 41)", x -> x.numbers(0, 0, 41), -3);
        refused("numbers(2, 3, 41)", x -> x.numbers(2, 3, 41), -3);
        refused("numbers(3, 3, 41)", x -> x.numbers(3, 3, 41), -3);
        due("numbers(3, 3, 40)", Scene.lived().numbers(3, 3, 40), 0);
        due("numbers(3, 3, 0)", Scene.lived().numbers(3, 3, 0), 0);
    }

    static void cutToItsSort() {
        sentence("Promise 45", "Number i of a TRAY is v, cut to its sort: as it is there.");
        long v = 0x123456789abcdef0L;
        long[][] rows = {{v, -16, -8464, -1698898192, v}, {127, 127, 127, 127, 127}, {128, -128, 128, 128, 128}, {-129, 127, -129, -129, -129},
            {32767, -1, 32767, 32767, 32767}, {32768, 0, -32768, 32768, 32768}, {-32769, -1, 32767, -32769, -32769},
            {2147483648L, 0, 0, -2147483648L, 2147483648L}, {-2147483649L, -1, -1, 2147483647, -2147483649L}, {4294967295L, -1, -1, -1, 4294967295L},
            {4294967296L, 0, 0, 0, 4294967296L}, {Long.MAX_VALUE, -1, -1, -1, Long.MAX_VALUE}, {Long.MIN_VALUE, 0, 0, 0, Long.MIN_VALUE}, {-1, -1, -1, -1, -1}};
        for (int sort = 0; sort < 4; sort++) {
            PartyLine x = new PartyLine();
            x.numbers(sort, sort, 40);
            for (long[] row : rows) {
                due("write of " + row[0] + " by sort " + sort, x.write(sort, 39, row[0]), row[sort + 1]);
            }
        }
        PartyLine x = fine("farms 2 moments 2;bit 0 to 1;bit 1 to 0;", 3);
        x.numbers(0, 0, 3);
        due("write in the middle", x.write(0, 1, 257), 1);
        due("bits 0, 1, 0", x.judge(0, 0), -1);
        due("write at the first", x.write(0, 0, 256 + 2), 2);
        due("no such bit", x.judge(0, 0), 0);
        due("write at the first again", x.write(0, 0, 512), 0);
        due("write at the last", x.write(0, 2, 256 + 3), 3);
        due("no such bit", x.judge(0, 0), 2);
    }

    static void writeRefuses() {
        sentence("Promise 45", "-2: no such TRAY; -6; -7.");
        refused("write(4, 0, 1)", x -> x.write(4, 0, 1), -2);
        refused("write(4, 99, 1): -2 ahead of -7", x -> x.write(4, 99, 1), -2);
        refused("write(3, 0, 1): it is missing", x -> x.write(3, 0, 1), -6);
        refused("write(3, 99, 1): -6 ahead of -7", x -> x.write(3, 99, 1), -6);
        refused("write(0, 5, 1): of five", x -> x.write(0, 5, 1), -7);
        refused("write(1, 3, 1): of three", x -> x.write(1, 3, 1), -7);
        for (int wrong : WRONG) {
            refused("write(" + wrong + ", 0, 1)", x -> x.write(wrong, 0, 1), -2);
            refused("write(0, " + wrong + ", 1)", x -> x.write(0, wrong, 1), -7);
        }
        due("write(0, 4, 1)", Scene.lived().write(0, 4, 1), 1);
        due("write(0, 0, 1)", Scene.lived().write(0, 0, 1), 1);
    }

    static void asFarAsItHasPlaces() {
        sentence("Promise 46", "BITS of the SHORT WAY come into a TRAY, as far as it has places: how many.");
        for (int places = 0; places <= 6; places++) {
            PartyLine x = fine(CHAIN, 5);
            Check.lay(x, 2, places % 4, times(places, 77));
            due("lists into " + places + " places", x.lists(2, 0, 4), Math.min(places, 4));
            due("what is listed can be told; what isn't, stays", x.perform(2), Math.min(places, 4));
            due("so far it led", x.farm(0, 0), Math.min(places, 4));
            due("it has as many places as it had", x.write(2, places, 0), -7);
        }
        PartyLine x = fine(CHAIN, 5);
        Check.lay(x, 0, 0, 77, 77);
        due("no bits to list", x.lists(0, 3, 3), 0);
        due("the tray stays", x.judge(0, 0), 0);
        x.write(0, 0, 0);
        due("and its second number", x.judge(0, 0), 1);
        x = fine("farms 2 moments 4;bit 0 to 1;bit 0 to 2;bit 2 to 3;bit 1 to 3;", 5);
        Check.lay(x, 0, 0, 9, 9);
        due("lists(0, 0, 3)", x.lists(0, 0, 3), 2);
        due("bits 0 and 3, the first by bits", x.perform(0), 2);
        due("there", x.farm(1, 0), 3);
    }

    static void listsRefuses() {
        sentence("Promise 46", "-2: the TRAY, MOMENTS; -6; -5: there is none.");
        refused("lists(4, 0, 3)", x -> x.lists(4, 0, 3), -2);
        refused("lists(0, 4, 3)", x -> x.lists(0, 4, 3), -2);
        refused("lists(0, 0, 4)", x -> x.lists(0, 0, 4), -2);
        refused("lists(3, 4, 0): -2 ahead of -6", x -> x.lists(3, 4, 0), -2);
        refused("lists(3, 0, 3): it is missing", x -> x.lists(3, 0, 3), -6);
        refused("lists(3, 3, 0): -6 ahead of -5", x -> x.lists(3, 3, 0), -6);
        refused("lists(0, 3, 0): there is none", x -> x.lists(0, 3, 0), -5);
        for (int wrong : WRONG) {
            refused("lists(" + wrong + ", 0, 3)", x -> x.lists(wrong, 0, 3), -2);
            refused("lists(0, " + wrong + ", 3)", x -> x.lists(0, wrong, 3), -2);
            refused("lists(0, 0, " + wrong + ")", x -> x.lists(0, 0, wrong), -2);
        }
        due("lists(0, 0, 3)", Scene.lived().lists(0, 0, 3), 2);
        unchanged("lists(0, 3, 3): no bits", x -> x.lists(0, 3, 3), 0);
    }

    /** What an image holds of an object in the middle of its life. */
    private static String held(PartyLine x) {
        return Check.sight(x).replaceFirst("^((\\S+ ){8})\\S+ \\S+ ", "$1").replaceFirst(" \\S+ \\S+$", "");
    }

    static void anImageIsMade() {
        sentence("Promise 47", "An IMAGE is made: 0.");
        for (int image = 0; image < 2; image++) {
            PartyLine x = Scene.lived();
            due("image(" + image + ")", x.image(image), 0);
            due("what can be undone stays", x.count(8), 6);
            due("the tape stays", x.count(9), 40);
            due("undo(6)", x.undo(6), 0);
            due("restore(" + image + ")", x.restore(image), 0);
            Check.holds("it is what was then", held(x).equals(held(Scene.lived())));
            due("the other one", x.restore(1 - image), image == 0 ? -5 : 0);
        }
        PartyLine x = Scene.lived();
        x.image(1);
        x.go(5);
        String later = held(x);
        due("made anew", x.image(1), 0);
        x.undo(3);
        x.restore(1);
        Check.holds("the newer one is there", held(x).equals(later));
    }

    static void imageRefuses() {
        sentence("Promise 47", "-2.");
        refused("image(2)", x -> x.image(2), -2);
        for (int wrong : WRONG) {
            refused("image(" + wrong + ")", x -> x.image(wrong), -2);
        }
        due("image(1)", Scene.lived().image(1), 0);
        due("image(0)", Scene.lived().image(0), 0);
    }

    static void asItWas() {
        sentence("Promise 48", "All that is in an IMAGE is as it was: 0.");
        PartyLine x = Scene.lived();
        x.image(1);
        String then = held(x);
        due("another text", x.line(40), 3);
        x.tell(0, 0);
        x.mood(1, 9);
        x.cut(0);
        due("restore(1)", x.restore(1), 0);
        Check.holds("all is as it was", held(x).equals(then));
        due("nothing can be undone", x.count(8), 0);
        due("undo(1)", x.undo(1), -3);
        due("fault() isn't in it", x.fault(0), 0);
        due("go(9)", x.go(9), 1);
        due("mood(0, 9)", x.mood(0, 9), 3);
        due("cut(1)", x.cut(1), 0);
        due("restore(1) again", x.restore(1), 0);
        Check.holds("deeds behind it left the image alone", held(x).equals(then));
        due("trays aren't in it", x.write(0, 4, 1), 1);
        due("restore(0)", x.restore(0), 0);
        int[] counts = {2, 3, 2, 0, 0, 1, 1, 0, 0};
        for (int what = 0; what < counts.length; what++) {
            due("count(" + what + ") of the eldest", x.count(what), counts[what]);
        }
        due("its moment", x.farm(0, 0), 1);
        due("its mood", x.farm(1, 2), 8);
        due("its laws: none", x.likes(0, 0), 1);
        due("restore(1) once more", x.restore(1), 0);
        Check.holds("an image stays", held(x).equals(then));
        x = new PartyLine();
        x.image(0);
        Check.line(x, Scene.TEXT);
        due("restore(0) of a new object", x.restore(0), 0);
        Check.holds("it is as new", held(x).equals(held(new PartyLine())));
        x = Scene.lived();
        due("the tape isn't in it: restore(0)", x.restore(0), 0);
        due("so it stays", x.count(9), 40);
        due("fault() stays", x.fault(1), 22);
    }

    static void restoreRefuses() {
        sentence("Promise 48", "-2; -5: none was made.");
        refused("restore(2)", x -> x.restore(2), -2);
        for (int wrong : WRONG) {
            refused("restore(" + wrong + ")", x -> x.restore(wrong), -2);
        }
        refused("restore(1): none was made", x -> x.restore(1), -5);
        due("restore(0)", Scene.lived().restore(0), 0);
        refusedIn(PartyLine::new, "restore(0) of a new object", x -> x.restore(0), -5);
        refusedIn(PartyLine::new, "restore(2) of a new object: -2 ahead of -5", x -> x.restore(2), -2);
    }

    static void counts() {
        sentence("Promise 49", "0 FARMS, 1 MOMENTS, 2 BITS, 3 those that must be told, as bits, 4 CUT WIRES, as bits, 5 the TURN, 6 BITS told, "
            + "7 DOUBTS together, 8 calls that can be UNDONE, 9 bytes on THE TAPE, 10 LINES.");
        int[] due = {3, 4, 5, 2, 2, 1, 4, 2, 6, 40, 13};
        int[] atFirst = {2, 2, 0, 0, 0, 0, 0, 0, 0, 0, 0};
        for (int number = 0; number <= 10; number++) {
            int what = number;
            unchanged("count(" + what + ")", x -> x.count(what), due[what]);
            due("count(" + what + ") of a new object", new PartyLine().count(what), atFirst[what]);
        }
        PartyLine x = fine("farms 8 moments 8;" + "bit 0 to 0 must;".repeat(12) + "cut 0;cut 1;cut 2;cut 3;cut 4;cut 5;cut 6;", 20);
        due("all bits must", x.count(3), 4095);
        due("all wires are cut", x.count(4), 127);
        x.go(7);
        due("the last one's turn", x.count(5), 7);
        x.go(1);
        due("the first one's turn", x.count(5), 0);
    }

    static void otherCounts() {
        sentence("Promise 49", "NONE for others.");
        unchanged("count(11)", x -> x.count(11), -1);
        for (int wrong : WRONG) {
            unchanged("count(" + wrong + ")", x -> x.count(wrong), -1);
        }
        unchanged("count(10)", x -> x.count(10), 13);
        unchanged("count(0)", x -> x.count(0), 3);
    }
}
