/** The boundary cases of promises 1 to 8: a new object, the tape, the line, what can be seen of it. */
public final class LineEdgesTest extends Edges {
    private static final int BLANKS = 0x20202020;

    private LineEdgesTest() {
    }

    public static void main(String[] args) throws Exception {
        runAll(LineEdgesTest.class);
    }

    private static PartyLine fullTape() {
        PartyLine x = Scene.lived();
        for (int bytes = 60; bytes <= 900; bytes += 20) {
            due("feed to " + bytes, x.feed(BLANKS, BLANKS, BLANKS, BLANKS, BLANKS), bytes);
        }
        return x;
    }

    static void usedFor512Calls() {
        sentence("What it is", "An object is used for at most 512 calls after it has been made;");
        PartyLine x = new PartyLine();
        due("feed", x.feed(0x6661726d, 0x73326d6f, 0x6d656e74, 0x73323b62, 0x69743074), 20);
        due("feed", x.feed(0x6f303b20, BLANKS, BLANKS, BLANKS, BLANKS), 40);
        due("line", x.line(40), 2);
        for (int i = 4; i <= 511; i++) {
            due("call " + i, x.go(99), 99);
        }
        due("call 512", x.count(6), 508 * 99);
    }

    static void theConstant() {
        sentence("Terms", "The constants: `NONE = -1`: There is none.");
        due("NONE", PartyLine.NONE, -1);
        due("it is no code of a refused call", Scene.lived().fewest(3, 0), PartyLine.NONE);
    }

    static void aNewObject() {
        sentence("Promise 1", "2 FARMS, 2 MOMENTS, no BITS.");
        PartyLine x = new PartyLine();
        int[] counts = {2, 2, 0, 0, 0, 0, 0, 0, 0, 0, 0};
        for (int what = 0; what < counts.length; what++) {
            due("count(" + what + ")", x.count(what), counts[what]);
        }
        due("farm 0", x.farm(0, 4), 2);
        due("farm 1", x.farm(1, 4), 1);
        due("moment 1", x.likes(0, 1), 0);
        due("wire 0", x.wire(0, 0), 0);
        refusedIn(PartyLine::new, "farm 2", y -> y.farm(2, 0), -2);
        refusedIn(PartyLine::new, "moment 2", y -> y.likes(0, 2), -99000002);
        refusedIn(PartyLine::new, "bit 0", y -> y.bit(0, 0), -2);
        refusedIn(PartyLine::new, "wire 1", y -> y.wire(1, 0), -2);
        for (int tray = 0; tray < 4; tray++) {
            int t = tray;
            refusedIn(PartyLine::new, "tray " + t, y -> y.perform(t), -6);
        }
        refusedIn(PartyLine::new, "undo(1)", y -> y.undo(1), -3);
    }

    static void highestByteFirst() {
        sentence("Promise 2", "Twenty bytes come behind those on THE TAPE, the highest of each int first: how many it has.");
        PartyLine x = new PartyLine();
        due("\"farms 2 moments 2;no\"", x.feed(0x6661726d, 0x73203220, 0x6d6f6d65, 0x6e747320, 0x323b6e6f), 20);
        due("\"w 1;\", blanks", x.feed(0x7720313b, BLANKS, BLANKS, BLANKS, BLANKS), 40);
        due("line(24)", x.line(24), 2);
        due("now", x.farm(1, 0), 1);
        due("an empty tape again", x.feed(0, 0, 0, 0, 0), 20);
        for (int place = 0; place < 20; place++) {
            int[] ints = {BLANKS, BLANKS, BLANKS, BLANKS, BLANKS};
            ints[place / 4] |= 0xff << 8 * (3 - place % 4);
            PartyLine y = new PartyLine();
            due("feed", y.feed(ints[0], ints[1], ints[2], ints[3], ints[4]), 20);
            due("a byte of 255 at " + place, y.line(20), -31);
            due("its place", y.fault(1), place);
        }
    }

    static void atMost900Bytes() {
        sentence("Promise 2", "-5: it would have more than 900.");
        due("45 times twenty", fullTape().count(9), 900);
        refusedIn(LineEdgesTest::fullTape, "once more", x -> x.feed(0, 0, 0, 0, 0), -5);
        PartyLine x = fullTape();
        due("line(40)", x.line(40), 3);
        due("there is place again", x.feed(0, 0, 0, 0, 0), 20);
    }

    static void theFirstBytes() {
        sentence("Promise 3", "The first n bytes of THE TAPE (which is empty then) are THE LINE,");
        PartyLine x = Scene.lived();
        due("all 40", x.line(40), 3);
        due("the tape", x.count(9), 0);
        due("now 2", x.farm(0, 0), 2);
        x = Scene.lived();
        due("the first 34", x.line(34), 2);
        due("the tape, all of it", x.count(9), 0);
        due("now isn't told", x.farm(0, 0), 0);
        x = Scene.lived();
        due("the first 33", x.line(33), -32);
        due("the tape", x.count(9), 0);
        x = Scene.lived();
        due("none of them", x.line(0), -32);
        due("its place", x.fault(1), 0);
        due("the tape", x.count(9), 0);
        x = new PartyLine();
        Check.feed(x, "farms 2 moments 2;now 11;");
        due("a number ends with the text", x.line(23), -32);
        due("its place", x.fault(1), 23);
        Check.feed(x, "farms 2 moments 2;cutter");
        due("a word ends with the text", x.line(21), -32);
        due("its place", x.fault(1), 21);
    }

    static void nothingWasTold() {
        sentence("Promise 3", "nothing was told, nothing can be UNDONE:");
        PartyLine x = Scene.lived();
        due("six calls could be undone", x.count(8), 6);
        due("line(40)", x.line(40), 3);
        due("none", x.count(8), 0);
        due("undo(1)", x.undo(1), -3);
        due("bits told", x.count(6), 0);
        due("doubts", x.count(7), 0);
        due("the turn", x.count(5), 0);
        due("cut wires", x.count(4), 0);
        for (int f = 0; f < 2; f++) {
            due("moment of " + f, x.farm(f, 0), 2);
            due("doubts of " + f, x.farm(f, 1), 0);
            due("mood of " + f, x.farm(f, 2), 0);
            due("wish of " + f, x.farm(f, 3), 0);
            due("liking of " + f, x.likes(f, 0), 1);
        }
        due("snow", x.wire(0, 1), 0);
        due("anybody may tell", x.bit(0, 3), 3);
        due("trays stay", x.write(0, 4, 7), 7);
        due("images stay", x.restore(0), 0);
    }

    static void nothingOfEarlierTexts() {
        sentence("Promise 3", "are THE LINE,");
        String all = "farms 2 moments 2;bit 0 to 1 must;bit 0 to 1 must;farm 1 wish 1 mood 9;cut 0;snow 7 at 0;now 1;";
        String law = "(1+0)*".repeat(70) + "1";
        String[] ends = {"tells:1=2;hears:1=2;likes:" + law + ";", "tells:not ", "tells:not not not not not not ", "tells:[[[[[[1=",
            "likes:((((((1", "@"};
        int[] answers = {10, -32, -32, -32, -32, -31};
        for (int end = 0; end < ends.length; end++) {
            PartyLine x = new PartyLine();
            for (int i = 0; i < 3; i++) {
                due("a text with all and " + ends[end], Check.line(x, all + ends[end]), answers[end]);
            }
            due("a text with six openings each", Check.line(x, "farms 2 moments 2;tells:[[[[[[farm=0]]]]]] and not not not not not not 1=1;"
                + "likes:((((((1))))))+" + law + ";bit 0 to 1;"), 4);
            due("its law tells", x.bit(0, 3), 1);
            due("its law likes", x.likes(1, 1), 2);
            due("a text with nothing", Check.line(x, "farms 2 moments 2;bit 0 to 0;"), 2);
            int[] counts = {2, 2, 1, 0, 0, 0, 0, 0, 0, 0, 2};
            for (int what = 0; what <= 10; what++) {
                due("count(" + what + ")", x.count(what), counts[what]);
            }
            int[] farm = {0, 0, 0, 0, 1, 1};
            for (int what = 0; what <= 5; what++) {
                due("farm(1, " + what + ")", x.farm(1, what), farm[what]);
            }
            due("anybody may tell", x.bit(0, 3), 3);
            due("no snow", x.wire(0, 1), 0);
            due("no law likes", x.likes(1, 0), 1);
        }
    }

    static void howManyLines() {
        sentence("Promise 3", "how many LINES (farms, too; all stays with a FAULT).");
        String two = "farms 2 moments 2;";
        fine(two, 1);
        fine(two + "now 1;", 2);
        fine(two + "cut 0;".repeat(147), 148);
        faulty(2, two + "now 1;cut 0^");
        faulty(3, two + "now 1;cut ^1;");
        faulty(1, two + "now 1;cut 0;^!");
        PartyLine x = Scene.withoutTape();
        due("a fault", Check.line(x, "farms 2 moments 2;bit 0 to 1;cut 0;snow 1 at 1;"), -33);
        due("lines as they were", x.count(10), 13);
        due("calls that can be undone as they were", x.undo(1), 5);
    }

    static void lineOfMoreThanThereIs() {
        sentence("Promise 3", "-3: n is below 0 or above what there is (THE TAPE stays);");
        refused("line(41)", x -> x.line(41), -3);
        for (int n : WRONG) {
            refused("line(" + n + ")", x -> x.line(n), -3);
        }
        due("line(40)", Scene.lived().line(40), 3);
        refusedIn(LineEdgesTest::fullTape, "line(901)", x -> x.line(901), -3);
        refusedIn(PartyLine::new, "line(1) of nothing", x -> x.line(1), -3);
        due("line(0) of nothing", new PartyLine().line(0), -32);
        PartyLine x = Scene.lived();
        due("line(41)", x.line(41), -3);
        due("the tape stays", x.count(9), 40);
        due("and can be read", x.line(40), 3);
    }

    static void lessTheFault() {
        sentence("Promise 3", "-30 less the FAULT.");
        faulty(1, "farms 2 moments 2 ^. ");
        faulty(2, "farms 2 moments 2 ^: ");
        faulty(3, "farms 2 moments ^1 ;");
        faulty(4, "farms 2 moments 2;" + "bit 0 to 1;".repeat(12) + "^bit");
        fine("farms 2 moments 2 ;", 1);
    }

    static void theLatestFault() {
        sentence("Promise 4", "Of the latest line() that was read, what 0: its FAULT (0), 1: its place (NONE).");
        PartyLine x = new PartyLine();
        due("none was read: fault(0)", x.fault(0), 0);
        due("none was read: fault(1)", x.fault(1), -1);
        due("a fault", Check.line(x, "farms 2 moments 2;now 5;"), -33);
        due("fault(0)", x.fault(0), 3);
        due("fault(1)", x.fault(1), 22);
        due("line(-1) isn't read", x.line(-1), -3);
        due("fault(0) stays", x.fault(0), 3);
        due("fault(1) stays", x.fault(1), 22);
        due("line(0) is read", x.line(0), -32);
        due("fault(0) of it", x.fault(0), 2);
        due("fault(1) of it", x.fault(1), 0);
        due("a fine text", Check.line(x, "farms 2 moments 2;"), 1);
        due("fault(0) of it", x.fault(0), 0);
        due("fault(1) of it", x.fault(1), -1);
        x = Scene.lived();
        x.restore(0);
        due("restore() reads nothing: fault(0)", x.fault(0), 3);
        due("restore() reads nothing: fault(1)", x.fault(1), 22);
    }

    static void otherFaults() {
        sentence("Promise 4", "NONE for others.");
        due("fault(0)", Scene.lived().fault(0), 3);
        due("fault(1)", Scene.lived().fault(1), 22);
        unchanged("fault(2)", x -> x.fault(2), -1);
        for (int what : WRONG) {
            unchanged("fault(" + what + ")", x -> x.fault(what), -1);
        }
    }

    static void aFarm() {
        sentence("Promise 5", "Of a FARM, what 0: its MOMENT, 1: DOUBTS, 2: MOOD, 3: WISH, 4: whom it HEARS, as bits, "
            + "5: BITS it can TELL now, as bits.");
        int[][] due = {{2, 0, 3, 0, 2, 8}, {2, 2, 4, 3, 1, 0}, {3, 0, 0, 1, 0, 0}};
        PartyLine x = Scene.lived();
        for (int f = 0; f < 3; f++) {
            for (int what = 0; what < 6; what++) {
                due("farm(" + f + ", " + what + ")", x.farm(f, what), due[f][what]);
            }
        }
        x = fine("farms 8 moments 2;" + "bit 0 to 1;".repeat(11) + "bit 1 to 0;", 13);
        due("all others, as bits", x.farm(7, 4), 127);
        due("eleven bits", x.farm(7, 5), 2047);
        x.go(1);
        due("the twelfth alone", x.farm(7, 5), 2048);
    }

    static void noSuchFarm() {
        sentence("Promise 5", "-2.");
        refused("farm(3, 0)", x -> x.farm(3, 0), -2);
        refused("farm(0, 6)", x -> x.farm(0, 6), -2);
        for (int wrong : WRONG) {
            refused("farm(" + wrong + ", 0)", x -> x.farm(wrong, 0), -2);
            refused("farm(0, " + wrong + ")", x -> x.farm(0, wrong), -2);
            refused("farm(3, " + wrong + ")", x -> x.farm(3, wrong), -2);
        }
        due("farm(2, 5)", Scene.lived().farm(2, 5), 0);
    }

    static void aBit() {
        sentence("Promise 6", "Of a BIT, what 0: from, 1: to, 2: 1 if it must be told, else 0, 3: FARMS that MAY tell it, as bits.");
        int[][] due = {{0, 1, 0, 7}, {1, 2, 1, 7}, {0, 2, 0, 7}, {2, 3, 0, 5}, {1, 0, 0, 7}};
        PartyLine x = Scene.lived();
        for (int b = 0; b < 5; b++) {
            for (int what = 0; what < 4; what++) {
                due("bit(" + b + ", " + what + ")", x.bit(b, what), due[b][what]);
            }
        }
        due("all eight may", fine("farms 8 moments 2;bit 0 to 1;", 2).bit(0, 3), 255);
        due("none may", fine("farms 8 moments 2;bit 0 to 1;tells:1=2;", 3).bit(0, 3), 0);
    }

    static void noSuchBit() {
        sentence("Promise 6", "-2.");
        refused("bit(5, 0)", x -> x.bit(5, 0), -2);
        refused("bit(0, 4)", x -> x.bit(0, 4), -2);
        for (int wrong : WRONG) {
            refused("bit(" + wrong + ", 0)", x -> x.bit(wrong, 0), -2);
            refused("bit(0, " + wrong + ")", x -> x.bit(0, wrong), -2);
        }
        due("bit(4, 3)", Scene.lived().bit(4, 3), 7);
        PartyLine x = fine("farms 2 moments 2;" + "bit 0 to 1;".repeat(12), 13);
        due("bit(11, 1)", x.bit(11, 1), 1);
        due("bit(12, 1)", x.bit(12, 1), -2);
        x = fine("farms 2 moments 2;", 1);
        due("bit(0, 1)", x.bit(0, 1), -2);
    }

    static void aWire() {
        sentence("Promise 7", "Of a WIRE, what 0: 1 if CUT, else 0, 1: snow.");
        PartyLine x = Scene.lived();
        due("wire(0, 0)", x.wire(0, 0), 0);
        due("wire(0, 1)", x.wire(0, 1), 3);
        due("wire(1, 0)", x.wire(1, 0), 1);
        due("wire(1, 1)", x.wire(1, 1), 5);
        x.cut(1);
        due("whole again", x.wire(1, 0), 0);
        due("snow is as told", x.wire(1, 1), 5);
    }

    static void noSuchWire() {
        sentence("Promise 7", "-2.");
        refused("wire(2, 0): one less than farms", x -> x.wire(2, 0), -2);
        refused("wire(0, 2)", x -> x.wire(0, 2), -2);
        for (int wrong : WRONG) {
            refused("wire(" + wrong + ", 0)", x -> x.wire(wrong, 0), -2);
            refused("wire(0, " + wrong + ")", x -> x.wire(0, wrong), -2);
        }
        due("wire(1, 1)", Scene.lived().wire(1, 1), 5);
        PartyLine x = fine("farms 8 moments 2;snow 9 at 6;cut 6;", 3);
        due("wire(6, 0)", x.wire(6, 0), 1);
        due("wire(6, 1)", x.wire(6, 1), 9);
        due("wire(7, 0)", x.wire(7, 0), -2);
        due("wire(7, 1)", x.wire(7, 1), -2);
    }

    static void aLiking() {
        sentence("Promise 8", "How much a FARM LIKES a MOMENT.");
        PartyLine x = Scene.lived();
        for (int f = 0; f < 3; f++) {
            for (int m = 0; m < 4; m++) {
                due("likes(" + f + ", " + m + ")", x.likes(f, m), m * 2 - f);
            }
        }
        due("the least", fine("farms 2 moments 2;likes:0-999*999-999*999;", 2).likes(0, 0), -1000000);
        due("the most", fine("farms 2 moments 2;likes:999*999+999*999;", 2).likes(0, 0), 1000000);
    }

    static void noSuchLiking() {
        sentence("Promise 8", "-99000002.");
        refused("likes(3, 0)", x -> x.likes(3, 0), -99000002);
        refused("likes(0, 4)", x -> x.likes(0, 4), -99000002);
        for (int wrong : WRONG) {
            refused("likes(" + wrong + ", 0)", x -> x.likes(wrong, 0), -99000002);
            refused("likes(0, " + wrong + ")", x -> x.likes(0, wrong), -99000002);
        }
        due("likes(2, 3)", Scene.lived().likes(2, 3), 4);
    }
}
