/** By hand, promise by promise: ordinary inputs, the edges that the document names, and calls that are refused. */
public final class PromisesTest {
    private static final String TALE = "farms 3 moments 4;bit 0 to 1;bit 1 to 2 must;bit 0 to 2;bit 2 to 3;bit 1 to 0;";

    private PromisesTest() {
    }

    private static void due(String call, long got, long want) {
        Check.due(call, got, want);
    }

    public static void main(String[] args) {
        theLine();
        faults();
        laws();
        lines();
        deeds();
        undoing();
        trayDeeds();
        winters();
        hearing();
        waysOfTheTale();
        fullWays();
        theGame();
        atOne();
        seen();
        told();
        wishes();
        snowfall();
        trays();
        images();
        refusedCallsChangeNothing();
        Check.end();
    }

    /** Promises 1 to 4, 49. */
    private static void theLine() {
        PartyLine x = new PartyLine();
        int[] atFirst = {2, 2, 0, 0, 0, 0, 0, 0, 0, 0, 0};
        for (int what = 0; what < atFirst.length; what++) {
            due("new: count(" + what + ")", x.count(what), atFirst[what]);
        }
        due("count(11)", x.count(11), -1);
        due("count(-1)", x.count(-1), -1);
        due("new: fault(0)", x.fault(0), 0);
        due("new: fault(1)", x.fault(1), -1);
        due("fault(2)", x.fault(2), -1);
        due("fault(-1)", x.fault(-1), -1);
        due("line(0) of nothing", x.line(0), -32);
        due("its fault", x.fault(0), 2);
        due("its place", x.fault(1), 0);
        due("line(-1)", x.line(-1), -3);
        due("line(1)", x.line(1), -3);
        for (int i = 1; i <= 45; i++) {
            due("feed " + i, x.feed(0x20202020, 0x20202020, 0x20202020, 0x20202020, 0x20202020), i * 20);
        }
        due("feed 46", x.feed(0, 0, 0, 0, 0), -5);
        due("bytes", x.count(9), 900);
        due("line(901)", x.line(901), -3);
        due("the tape stays", x.count(9), 900);
        due("the fault stays", x.fault(1), 0);
        due("line(900) of blanks", x.line(900), -32);
        due("the place is the text's length", x.fault(1), 900);
        due("the tape is empty", x.count(9), 0);
        due("a fine text", Check.line(x, TALE), 6);
        due("count(10)", x.count(10), 6);
        due("fault(0)", x.fault(0), 0);
        due("fault(1)", x.fault(1), -1);
        x.go(5);
        x.mood(1, 7);
        due("again", Check.line(x, TALE), 6);
        due("nothing was told", x.count(6), 0);
        due("nothing can be undone", x.count(8), 0);
        due("the turn is the first one's", x.count(5), 0);
        due("moods are the text's", x.farm(1, 2), 0);
        Check.feed(x, "farms 2 moments 2;cut 0;");
        due("the first bytes only", x.line(18), 1);
        due("no wire is cut", x.count(4), 0);
        due("the tape is empty then", x.count(9), 0);
        Check.feed(x, "farms 2 moments 22;");
        due("a number ends with the text", x.line(17), -32);
        due("its place", x.fault(1), 17);
        Check.feed(x, "farms 2 moments 2;cutter");
        due("a word ends with the text", x.line(21), -32);
        due("its place", x.fault(1), 21);
        due("a text that ends with not", Check.line(x, "farms 2 moments 2;tells : not not not not not not"), -32);
        due("leaves nothing for the next one", Check.line(x, "farms 2 moments 2;tells : not not not not not not 1 = 1;"), 2);
        due("a text that ends with (", Check.line(x, "farms 2 moments 2;likes : (((((("), -32);
        due("leaves nothing for the next one", Check.line(x, "farms 2 moments 2;likes : ((((((1))))));"), 2);
        due("a text that ends with [", Check.line(x, "farms 2 moments 2;tells : [[[[[[1 = 1"), -32);
        due("leaves nothing for the next one", Check.line(x, "farms 2 moments 2;tells : [[[[[[1 = 1]]]]]];likes : 1 + moment;"), 3);
        due("nor for its laws", x.likes(0, 1), 2);
    }

    private static void fault(String text, int kind, int place) {
        PartyLine x = Check.made("farms 4 moments 5;bit 1 to 3;now 1;");
        x.go(2);
        String before = Check.sight(x).replaceAll(" -?\\d+ -?\\d+$", "");
        due("line of " + text, Check.line(x, text), -30 - kind);
        due("fault of " + text, x.fault(0), kind);
        due("place of " + text, x.fault(1), place);
        Check.holds("all stays with a fault", Check.sight(x).replaceAll(" -?\\d+ -?\\d+$", "").equals(before));
    }

    /** Promise 3, 4: the faults of the text blocks. */
    private static void faults() {
        String two = "farms 2 moments 2;";
        fault("", 2, 0);
        fault(" \n ", 2, 3);
        fault("farms", 2, 5);
        fault("farms 2 moments 2", 2, 17);
        fault("farms 2 moments 2  ", 2, 19);
        fault("moments 2 farms 2;", 2, 0);
        fault("Farms 2 moments 2;", 1, 0);
        fault("farms 2\tmoments 2;", 1, 7);
        fault("farms 1 moments 2;", 3, 6);
        fault("farms 9 @", 3, 6);
        fault("farms 0002 moments 2;", 1, 6);
        fault("farms 2 moments 9;", 3, 16);
        fault(two + ";", 2, 18);
        fault(two + "farms 2 moments 2;", 2, 18);
        fault(two + "bits 0 to 1;", 2, 18);
        fault(two + "zz 0 to 1;", 2, 18);
        fault(two + "bi 0 to 1;", 2, 18);
        fault(two + "{", 1, 18);
        fault(two + "`", 1, 18);
        fault(two + "/", 1, 18);
        fault(two + "bit 0 to 1 must must;", 2, 34);
        fault(two + "bit 0 to 2 1000;", 3, 27);
        fault(two + "bit 1000 to 2;", 1, 22);
        fault(two + "bit to 1;", 2, 22);
        fault(two + "bit 0 to 1", 2, 28);
        fault(two + "bit 0 to 1 \u00e9;", 1, 29);
        fault(two + "farm 0 mood;", 2, 29);
        fault(two + "farm 0 mood 10;", 3, 30);
        fault(two + "farm 0 wish 1 mood 2 cut 0;", 2, 39);
        fault(two + "cut 1;", 3, 22);
        fault(two + "snow 11 at 0;", 3, 23);
        fault(two + "snow 10 at 1;", 3, 29);
        fault(two + "snow 10 to 0;", 2, 26);
        fault(two + "now 2;", 3, 22);
        fault(two + "tells farm = 0;", 2, 24);
        fault(two + "tells : farm;", 2, 30);
        fault(two + "tells : farm = 0 = 0;", 2, 35);
        fault(two + "tells : (farm = 0);", 2, 32);
        fault(two + "tells : [farm] = 0;", 2, 31);
        fault(two + "tells : [farm = 0] = 0;", 2, 37);
        fault(two + "tells : [farm = 0;", 2, 35);
        fault(two + "tells : farm = 0];", 2, 34);
        fault(two + "tells : farm = not 0;", 2, 33);
        fault(two + "tells : moment = 0;", 2, 26);
        fault(two + "tells : far = 0;", 2, 26);
        fault(two + "hears : from = 0;", 2, 26);
        fault(two + "hears : to = 0;", 2, 26);
        fault(two + "likes : moment = 0;", 2, 33);
        fault(two + "likes : not moment;", 2, 26);
        fault(two + "likes : [moment];", 2, 26);
        fault(two + "likes : - 1;", 2, 26);
        fault(two + "likes : 1 + ;", 2, 30);
        fault(two + "likes : 1 2;", 2, 28);
        fault(two + "likes : (1));", 2, 29);
        fault(two + "likes : 1000;", 1, 26);
        fault(two + "likes : 1", 2, 27);
        fault(two + "likes : moments;", 2, 26);
        fault(two + "tells : not not not not not not not 0 = 0;", 4, 50);
        fault(two + "tells : not [not [not [(0) = 1 ]]];", 4, 41);
        fault(two + "tells : not [not [(0) = (((1))) ]];", 4, 44);
        fault(two + "tells : [[[[[[[ 0 = 0 ]]]]]]];", 4, 32);
        fault(two + "tells : [[[[[[ 0 = (0) ]]]]]];", 4, 37);
        fault(two + "likes : ((((((( 1 ;", 4, 32);
        fault(two + "likes : (((((( 1 ( ;", 2, 35);
        StringBuilder twelve = new StringBuilder(two);
        for (int i = 0; i < 12; i++) {
            twelve.append("bit 0 to 1;");
        }
        due("twelve bits", Check.line(new PartyLine(), twelve.toString()), 13);
        fault(twelve + "bit", 4, 150);
        fault(twelve + "bits", 2, 150);
        fault(twelve + "cut 1;bit", 3, 154);
    }

    private static void law(String law, int f, int m, int want) {
        due("likes : " + law, Check.made("farms 8 moments 8;farm 3 mood 5;likes : " + law + ";").likes(f, m), want);
    }

    private static void truth(String law, int farms) {
        due("tells : " + law, Check.made("farms 8 moments 8;farm 3 mood 5;bit 2 to 6;bit 3 to 1;tells:" + law + ";").bit(1, 3), farms);
    }

    /** Promises 6, 8: laws in their language. */
    private static void laws() {
        law("2 + 3 * 4", 0, 0, 14);
        law("(2 + 3) * 4", 0, 0, 20);
        law("10 - 3 - 2", 0, 0, 5);
        law("10 - (3 - 2)", 0, 0, 9);
        law("2 * 3 - 4 * 5 + 1", 0, 0, -13);
        law("farm * 100 + mood * 10 + moment", 3, 7, 357);
        law("farm*100+mood*10+moment", 2, 7, 207);
        law("999 * 999 * 999", 0, 0, 1000000);
        law("999 * 999 * 999 - 1", 0, 0, 999999);
        law("0 - 999 * 999 * 999 - 5", 0, 0, -1000000);
        law("0 - 999 * 999 - 999 * 999 + 1", 0, 0, -999999);
        law("(0 - 999) * 999 * 999 * (0 - 1)", 0, 0, 1000000);
        law("1", -1, 0, -99000002);
        law("((((((1))))))", 0, 0, 1);
        law("(1) + (2) + (3) + (4) + (5) + (6) + (7) + (8)", 0, 0, 36);
        truth("farm = 0", 1);
        truth("mood = 5", 8);
        truth("farm < 3", 7);
        truth("farm > 3", 240);
        truth("bit = 1 and from = 3 and to = 1", 255);
        truth("bit = 0", 0);
        truth("not farm = 0", 254);
        truth("not not farm = 0", 1);
        truth("farm = 0 or farm = 1 and farm = 2", 1);
        truth("[farm = 0 or farm = 1] and farm < 1", 1);
        truth("farm = 1 and farm = 2 or farm = 0", 1);
        truth("not farm = 0 and farm < 2", 2);
        truth("not [farm = 0 and farm < 2]", 254);
        truth("not farm = 0 or farm = 0", 255);
        truth("not not not not not not farm = 0", 1);
        truth("not [not [not [farm = 0]]]", 254);
        truth("[[[farm = 0]]] or [[[farm + (1) = 2]]] or not not not not not farm < 7", 131);
        truth("(farm) * 2 - 1 = 2 + (farm - 1) * (1)", 4);
        PartyLine x = Check.made("farms 4 moments 2;farm 1 mood 2;hears : far < 2 and not teller = 3 or mood = 2;");
        int[] heard = {2, 13, 2, 4};
        for (int f = 0; f < 4; f++) {
            due("farm(" + f + ", 4)", x.farm(f, 4), heard[f]);
        }
        x = Check.made("farms 2 moments 2;likes : 1;likes : moment;tells : 0 = 1;tells : 1 = 1;bit 0 to 1;hears : 1 = 1;hears : 0 = 1;");
        due("the later law likes", x.likes(0, 0), 0);
        due("the later law tells", x.bit(0, 3), 3);
        due("the later law hears", x.farm(0, 4), 0);
        due("a short law behind a long one", Check.line(x, "farms 2 moments 2;likes : 1 + 2 + 3;likes : 7;"), 3);
        due("its value", x.likes(1, 1), 7);
        due("no law behind a law", Check.line(x, "farms 2 moments 2;"), 1);
        due("the wish again", x.likes(1, 0), 1);
        due("all hear again", x.farm(1, 4), 1);
    }

    /** Promises 5 to 8. */
    private static void lines() {
        PartyLine x = Check.made("farms 3 moments 4;bit 3 to 3 must;bit 0 to 1;farm 1 wish 2 mood 9 wish 3;farm 2;farm 1 mood 8;"
            + "cut 1;cut 1;snow 4 at 0;snow 10 at 0;now 2;now 3;");
        due("wish", x.farm(1, 3), 3);
        due("mood", x.farm(1, 2), 8);
        due("wish by itself", x.farm(2, 3), 0);
        due("cut twice told is cut", x.wire(1, 0), 1);
        due("wire 0", x.wire(0, 0), 0);
        due("snow", x.wire(0, 1), 10);
        due("snow by itself", x.wire(1, 1), 0);
        due("now", x.farm(2, 0), 3);
        due("doubts", x.farm(2, 1), 0);
        due("bits it can tell", x.farm(0, 5), 1);
        due("hears", x.farm(0, 4), 2);
        due("from", x.bit(0, 0), 3);
        due("to", x.bit(1, 1), 1);
        due("must", x.bit(0, 2), 1);
        due("need not", x.bit(1, 2), 0);
        due("may", x.bit(1, 3), 7);
        due("likes", x.likes(1, 3), 1);
        due("likes", x.likes(1, 2), 0);
        due("lines", x.count(10), 12);
        for (int wrong : new int[] {-1, 3, Integer.MIN_VALUE, Integer.MAX_VALUE}) {
            due("farm " + wrong, x.farm(wrong, 0), -2);
            due("bit " + wrong, x.bit(wrong, 0), -2);
            due("wire " + wrong, x.wire(wrong, 0), -2);
            due("likes of " + wrong, x.likes(wrong, 0), -99000002);
        }
        due("farm(0, -1)", x.farm(0, -1), -2);
        due("farm(0, 6)", x.farm(0, 6), -2);
        due("bit(0, -1)", x.bit(0, -1), -2);
        due("bit(0, 4)", x.bit(0, 4), -2);
        due("wire(0, -1)", x.wire(0, -1), -2);
        due("wire(0, 2)", x.wire(0, 2), -2);
        due("wire(2, 0)", x.wire(2, 0), -2);
        due("likes(0, 4)", x.likes(0, 4), -99000002);
        due("likes(0, -1)", x.likes(0, -1), -99000002);
        due("no blanks are needed", Check.line(x, "farms2moments2;bit0to1must;farm0wish1mood3;"), 3);
        due("mood so", x.farm(0, 2), 3);
        due("new lines between all", Check.line(x, "\nfarms\n3\nmoments\n008\n;\nnow\n07\n;\n\n"), 2);
        due("now so", x.farm(2, 0), 7);
    }

    /** Promises 9 to 12. */
    private static void deeds() {
        PartyLine x = Check.made("farms 4 moments 4;bit 0 to 1;bit 1 to 2;bit 0 to 3;bit 3 to 3;tells : not [farm = 2 and bit = 0];"
            + "hears : not far = 3;");
        due("tell(0, 0)", x.tell(0, 0), 2);
        due("farm 3 is too far", x.farm(3, 0), 0);
        due("farm 2 heard it", x.farm(2, 0), 1);
        due("no doubts yet", x.count(7), 0);
        due("one bit was told", x.count(6), 1);
        due("it is nobody's turn but farm 0's", x.count(5), 0);
        due("tell(3, 2)", x.tell(3, 2), 2);
        due("farm 1 doubts", x.farm(1, 1), 1);
        due("farm 2 doubts", x.farm(2, 1), 1);
        due("farm 0 doesn't", x.farm(0, 1), 0);
        due("farm 3 doesn't", x.farm(3, 1), 0);
        due("all doubts", x.count(7), 2);
        due("a bit to where it is from", x.tell(3, 3), 2);
        due("those who are there don't doubt", x.count(7), 2);
        due("tell(4, 0)", x.tell(4, 0), -11);
        due("tell(-1, 0)", x.tell(-1, 0), -11);
        due("tell(0, 4)", x.tell(0, 4), -11);
        due("tell(0, -1)", x.tell(0, -1), -11);
        due("tell(2, 0): another moment goes ahead of may not", x.tell(2, 0), -12);
        due("undo", x.undo(3), 0);
        due("tell(2, 0)", x.tell(2, 0), -13);
        due("cut(1)", x.cut(1), 1);
        due("cut wires", x.count(4), 2);
        due("tell(0, 0)", x.tell(0, 0), 1);
        due("cut(1) again", x.cut(1), 0);
        due("cut(3)", x.cut(3), -11);
        due("cut(-1)", x.cut(-1), -11);
        due("cut(1000)", x.cut(1000), -11);
        due("mood(3, 9)", x.mood(3, 9), 0);
        due("mood(3, 0)", x.mood(3, 0), 9);
        due("mood(4, 0)", x.mood(4, 0), -11);
        due("mood(-1, 0)", x.mood(-1, 0), -11);
        due("mood(0, 10)", x.mood(0, 10), -11);
        due("mood(0, -1)", x.mood(0, -1), -11);
        turns();
    }

    private static void turns() {
        PartyLine x = Check.made("farms 3 moments 3;bit 0 to 1;bit 1 to 2;bit 0 to 2;tells : farm = 0 and bit = 2 or farm = 2;");
        due("go(1): the first bit it can", x.go(1), 1);
        due("bit 2 it was", x.farm(0, 0), 2);
        due("the next one's turn", x.count(5), 1);
        due("go(2): silence", x.go(2), 0);
        due("behind the last one", x.count(5), 0);
        due("go(0)", x.go(0), -3);
        due("go(100)", x.go(100), -3);
        due("go(-1)", x.go(-1), -3);
        due("go(99)", x.go(99), 0);
        due("99 turns of 3", x.count(5), 0);
        x = Check.made("farms 2 moments 2;bit 0 to 1;bit 1 to 0;hears : 0 = 1;");
        due("go(5)", x.go(5), 5);
        due("farm 0", x.farm(0, 0), 1);
        due("farm 1", x.farm(1, 0), 0);
        due("bits told", x.count(6), 5);
        due("a silent call can be undone, too", new PartyLine().go(2), 0);
    }

    /** Promise 13. */
    private static void undoing() {
        PartyLine x = Check.made(TALE);
        due("undo(1) of nothing", x.undo(1), -3);
        due("undo(0)", x.undo(0), -3);
        for (int i = 0; i < 13; i++) {
            due("mood", x.mood(i % 3, i % 10), i < 3 ? 0 : i - 3);
        }
        due("ten at most", x.count(8), 10);
        due("undo(11)", x.undo(11), -3);
        due("undo(-1)", x.undo(-1), -3);
        due("undo(4)", x.undo(4), 6);
        due("the mood behind the ninth", x.farm(2, 2), 8);
        due("undo(7): more than can be", x.undo(7), -3);
        due("undo(6)", x.undo(6), 0);
        due("the eldest are forgotten", x.farm(2, 2), 2);
        due("farm 0's", x.farm(0, 2), 0);
        due("farm 1's", x.farm(1, 2), 1);
        x = Check.made(TALE + "cut 1;");
        String before = Check.sight(x);
        due("tell(0, 0)", x.tell(0, 0), 1);
        due("tell(2, 2)", x.tell(2, 2), 0);
        due("cut(1)", x.cut(1), 0);
        due("tell(1, 1)", x.tell(1, 1), 2);
        due("doubts", x.count(7), 1);
        due("go(7)", x.go(7), 1);
        due("mood the same", x.mood(0, 0), 0);
        due("six calls", x.count(8), 6);
        due("undo(6)", x.undo(6), 0);
        Check.holds("all is as it was", Check.sight(x).equals(before));
    }

    /** Promises 14, 15. */
    private static void trayDeeds() {
        PartyLine x = Check.made("farms 3 moments 4;bit 0 to 1;bit 1 to 2;bit 0 to 2;tells : not [farm = 1 and bit = 2];");
        String before = Check.sight(x);
        Check.lay(x, 0, 3, 1001, 0, 202, 2019, -1, 1001, 2000);
        due("judge(0, 0)", x.judge(0, 0), -1);
        due("judge(0, 1)", x.judge(0, 1), 0);
        due("judge(0, 2)", x.judge(0, 2), 1);
        due("judge(0, 3)", x.judge(0, 3), 0);
        Check.holds("judging changes nothing", Check.sight(x).equals(before));
        for (long fine : new long[] {-1, 0, 2, 100, 200, 202, 1000, 1001, 2000, 2009, 2029}) {
            judged(x, fine, 0);
        }
        for (long none : new long[] {-2, 3, 99, 300, 899, 900, 999, 1002, 1009, 1010, 1999, 2030, 2099, 2100, 4294967295L, 4294967296L, Long.MIN_VALUE}) {
            judged(x, none, 1);
        }
        judged(x, 1, 2);
        judged(x, 201, 2);
        judged(x, 102, 3);
        Check.lay(x, 0, 1, 1001, 202, 0, 100, 1001);
        due("the first place that can't be", x.judge(0, 0), 3);
        due("why", x.judge(0, 1), 2);
        due("unlike moments then", x.judge(0, 2), 2);
        due("doubts then", x.judge(0, 3), 0);
        due("perform(0)", x.perform(0), 3);
        due("three were done", x.farm(2, 0), 2);
        due("farm 1 heard farm 0", x.farm(1, 0), 1);
        due("as one call", x.count(8), 1);
        due("perform(0) again", x.perform(0), 1);
        due("what was done is done", x.count(4), 0);
        due("undo(2)", x.undo(2), 0);
        Check.holds("undone as a whole", Check.sight(x).equals(before));
        Check.lay(x, 1, 0);
        due("an empty tray", x.perform(1), 0);
        due("nothing to be undone", x.count(8), 0);
        due("judge of an empty tray", x.judge(1, 0), -1);
        due("its moments", x.judge(1, 2), 1);
        Check.lay(x, 1, 1, 900);
        due("none was done", x.perform(1), 0);
        due("nothing to be undone", x.count(8), 0);
        due("judge(4, 0)", x.judge(4, 0), -2);
        due("judge(-1, 0)", x.judge(-1, 0), -2);
        due("judge(0, 4)", x.judge(0, 4), -2);
        due("judge(0, -1)", x.judge(0, -1), -2);
        due("judge(2, 4): what goes ahead of missing", x.judge(2, 4), -2);
        due("judge(2, 0)", x.judge(2, 0), -6);
        due("perform(2)", x.perform(2), -6);
        due("perform(4)", x.perform(4), -2);
        due("perform(-1)", x.perform(-1), -2);
    }

    private static void judged(PartyLine x, long deed, int why) {
        Check.lay(x, 3, 3, deed);
        due("judge of " + deed, x.judge(3, 0), why == 0 ? -1 : 0);
        due("why not " + deed, x.judge(3, 1), why);
    }

    /** Promise 16. */
    private static void winters() {
        PartyLine x = new PartyLine();
        due("winter(0, 0)", x.winter(0, 0), -3);
        due("winter(0, 41)", x.winter(0, 41), -3);
        due("winter(0, -1)", x.winter(0, -1), -3);
        for (int seed = -3; seed < 60; seed++) {
            for (int times = 1; times <= 40; times += 13) {
                PartyLine y = Check.made("farms 5 moments 3;bit 0 to 1;bit 1 to 2;bit 2 to 0;bit 0 to 2;tells : not farm = mood;");
                Check.lay(y, 0, 2);
                int could = 0;
                int draw = seed;
                for (int i = 0; i < times; i++) {
                    draw = 1103515245 * draw + 12345;
                    int sort = (draw >>> 16) % 5;
                    int deed = -1;
                    if (sort > 1) {
                        draw = 1103515245 * draw + 12345;
                        deed = sort == 3 ? 1000 + (draw >>> 16) % 8 : (draw >>> 16) % 8;
                    }
                    if (sort == 2 || sort == 4) {
                        draw = 1103515245 * draw + 12345;
                        deed = sort == 2 ? deed * 100 + (draw >>> 16) % 12 : 2000 + deed * 10 + (draw >>> 16) % 10;
                    }
                    y.numbers(0, 2, 1);
                    y.write(0, 0, deed);
                    could += y.perform(0);
                }
                PartyLine z = Check.made("farms 5 moments 3;bit 0 to 1;bit 1 to 2;bit 2 to 0;bit 0 to 2;tells : not farm = mood;");
                due("winter(" + seed + ", " + times + ")", z.winter(seed, times), could);
                due("winter is undone as a whole", z.count(8), could > 0 ? 1 : 0);
                for (int f = 0; f < 5; f++) {
                    for (int what = 0; what < 6; what++) {
                        due("farm behind winter " + seed, z.farm(f, what), y.farm(f, what));
                    }
                }
                due("turn", z.count(5), y.count(5));
                due("cuts", z.count(4), y.count(4));
                due("told", z.count(6), y.count(6));
            }
        }
    }

    /** Promises 17 to 21. */
    private static void hearing() {
        PartyLine x = Check.made("farms 4 moments 2;hears : teller > farm or farm = 2;");
        int[] hears = {14, 12, 11, 0};
        int[] heardBy = {4, 5, 3, 7};
        for (int f = 0; f < 4; f++) {
            due("farm(" + f + ", 4)", x.farm(f, 4), hears[f]);
            due("heardBy(" + f + ")", x.heardBy(f), heardBy[f]);
        }
        due("heardBy(4)", x.heardBy(4), -2);
        due("heardBy(-1)", x.heardBy(-1), -2);
        due("ear()", x.ear(), 0);
        due("listeners()", x.listeners(), 1);
        due("needs(0, 3)", x.needs(0, 3), 7);
        due("needs(3, 0): it doesn't now", x.needs(3, 0), 0);
        due("needs(2, 1)", x.needs(2, 1), 2);
        due("needs(1, 1)", x.needs(1, 1), -2);
        due("needs(4, 1)", x.needs(4, 1), -2);
        due("needs(1, 4)", x.needs(1, 4), -2);
        due("needs(-1, 1)", x.needs(-1, 1), -2);
        due("pieces()", x.pieces(), 1);
        due("cut(0)", x.cut(0), 1);
        due("pieces()", x.pieces(), 2);
        due("ear()", x.ear(), 1);
        due("listeners()", x.listeners(), 3);
        due("needs(0, 3) now", x.needs(0, 3), 0);
        due("cut(2)", x.cut(2), 1);
        due("pieces()", x.pieces(), 3);
        due("listeners()", x.listeners(), 11);
        due("ear(): the first", x.ear(), 1);
        x = Check.made("farms 6 moments 2;hears : far = 1;");
        due("listeners of neighbours", x.listeners(), 18);
        x = Check.made("farms 8 moments 2;hears : 0 = 1;");
        due("listeners, nobody hears", x.listeners(), 255);
        due("ear, nobody hears", x.ear(), 0);
    }

    /** Promises 22 to 25, 28, 46. */
    private static void waysOfTheTale() {
        PartyLine x = Check.made("farms 2 moments 6;bit 0 to 1;bit 0 to 2;bit 2 to 3;bit 1 to 3;bit 0 to 1;bit 3 to 0;bit 4 to 4;bit 3 to 5;"
            + "tells : not bit = 7 or mood = 4;");
        due("reach(0)", x.reach(0), 15);
        due("reach(4)", x.reach(4), 16);
        due("reach(5)", x.reach(5), 32);
        due("reach(6)", x.reach(6), -2);
        due("reach(-1)", x.reach(-1), -2);
        due("ends(): a bit to itself leads on", x.ends(), 32);
        due("fewest(0, 3)", x.fewest(0, 3), 2);
        due("way(0, 3, 0)", x.way(0, 3, 0), 0);
        due("way(0, 3, 1)", x.way(0, 3, 1), 3);
        due("way(0, 3, 2)", x.way(0, 3, 2), -1);
        due("fewest(0, 5)", x.fewest(0, 5), -1);
        due("way(0, 5, 0)", x.way(0, 5, 0), -1);
        due("way(0, 5, -1)", x.way(0, 5, -1), -3);
        due("way(6, 5, -1)", x.way(6, 5, -1), -2);
        due("fewest(4, 4)", x.fewest(4, 4), 0);
        due("way(4, 4, 0)", x.way(4, 4, 0), -1);
        due("fewest(6, 0)", x.fewest(6, 0), -2);
        due("fewest(0, -1)", x.fewest(0, -1), -2);
        due("ways(0, 3, 2)", x.ways(0, 3, 2), 3);
        due("ways(0, 3, 5)", x.ways(0, 3, 5), 9);
        due("ways(0, 3, 4)", x.ways(0, 3, 4), 0);
        due("ways(4, 4, 15)", x.ways(4, 4, 15), 1);
        due("ways(0, 0, 0)", x.ways(0, 0, 0), 1);
        due("ways(0, 1, 0)", x.ways(0, 1, 0), 0);
        due("ways(0, 0, -1)", x.ways(0, 0, -1), -3);
        due("ways(0, 0, 16)", x.ways(0, 0, 16), -3);
        due("ways(6, 0, 16)", x.ways(6, 0, 16), -2);
        due("mood(1, 4): some farm may", x.mood(1, 4), 0);
        due("fewest(0, 5) now", x.fewest(0, 5), 3);
        due("reach(0) now", x.reach(0), 47);
        listing(x);
        StringBuilder many = new StringBuilder("farms 2 moments 2;");
        for (int i = 0; i < 12; i++) {
            many.append("bit 0 to 0;");
        }
        due("12 to the 15th", Check.made(many.toString()).ways(0, 0, 15), 15407021574586368L);
    }

    private static void listing(PartyLine x) {
        due("lists(0, 0, 5)", x.lists(0, 0, 5), -6);
        due("lists(4, 0, 5)", x.lists(4, 0, 5), -2);
        due("lists(0, 6, 5)", x.lists(0, 6, 5), -2);
        due("lists(0, 0, 6)", x.lists(0, 0, 6), -2);
        Check.lay(x, 0, 1, 50, 51, 52, 53);
        due("lists(0, 5, 0)", x.lists(0, 5, 0), -5);
        due("lists(0, 0, 5)", x.lists(0, 0, 5), 3);
        due("what it has not listed stays: no bit", x.tellers(0), -3);
        Check.lay(x, 0, 0, 9, 9);
        due("as far as it has places", x.lists(0, 0, 5), 2);
        due("the bits are there", x.tellers(0), 2);
        Check.lay(x, 0, 0);
        due("no place", x.lists(0, 0, 5), 0);
        due("no bits", x.lists(0, 3, 3), 0);
    }

    /** Promises 26, 27. */
    private static void fullWays() {
        PartyLine x = Check.made("farms 2 moments 4;bit 0 to 1 must;bit 1 to 0;bit 0 to 2;bit 2 to 0;bit 2 to 3 must;bit 0 to 2 must;");
        due("full(0, 3)", x.full(0, 3), 4);
        int[] bits = {0, 1, 5, 4, -1};
        for (int i = 0; i < bits.length; i++) {
            due("fullWay(0, 3, " + i + ")", x.fullWay(0, 3, i), bits[i]);
        }
        due("full(0, 0)", x.full(0, 0), -1);
        due("full(3, 3)", x.full(3, 3), -1);
        due("fullWay(3, 3, 0)", x.fullWay(3, 3, 0), -1);
        due("fullWay(3, 3, -1)", x.fullWay(3, 3, -1), -3);
        due("fullWay(4, 3, -1)", x.fullWay(4, 3, -1), -2);
        due("full(4, 0)", x.full(4, 0), -2);
        due("full(0, -1)", x.full(0, -1), -2);
        x = Check.made("farms 2 moments 2;bit 0 to 0 must;bit 0 to 1;");
        due("a bit to itself must be told", x.full(0, 0), 1);
        due("it is told first", x.fullWay(0, 1, 0), 0);
        due("then the other one", x.fullWay(0, 1, 1), 1);
        x = Check.made("farms 2 moments 2;bit 0 to 1;bit 1 to 1 must;tells : bit = 0;");
        due("no farm may tell what must be told", x.full(0, 1), -1);
        due("though there is a way", x.fewest(0, 1), 1);
        StringBuilder all = new StringBuilder("farms 2 moments 8;");
        for (int i = 0; i < 12; i++) {
            all.append("bit ").append(i % 7).append(" to ").append(i < 7 ? i + 1 : 0).append(" must;");
        }
        x = Check.made(all.toString());
        due("all twelve", x.full(0, 7), 22);
        due("the search can be used again", x.full(0, 7), 22);
        due("short ones behind", x.fewest(0, 7), 7);
        due("none back from there", x.full(7, 0), -1);
    }

    /** Promises 29 to 32. */
    private static void theGame() {
        PartyLine x = Check.made("farms 2 moments 4;bit 0 to 1;bit 0 to 2;bit 1 to 0;bit 1 to 3;bit 2 to 3;");
        due("forces(0, 0)", x.forces(0, 0), 0);
        due("forces(0, 3)", x.forces(0, 3), 2);
        due("best(0, 3)", x.best(0, 3), 1);
        due("forces(0, 1)", x.forces(0, 1), 1);
        due("best(0, 1)", x.best(0, 1), 0);
        due("best(0, 0)", x.best(0, 0), -1);
        due("forces(1, 1): the other one begins", x.forces(1, 1), -1);
        due("ally(1, 1)", x.ally(1, 1), 0);
        due("ally(0, 1): it does", x.ally(0, 1), -1);
        due("forces(1, 3)", x.forces(1, 3), 2);
        due("power(0)", x.power(0), 15);
        due("power(1)", x.power(1), 9);
        due("best(1, 3)", x.best(1, 3), -5);
        due("best(2, 3)", x.best(2, 3), -2);
        due("best(1, 4): no such goes ahead", x.best(1, 4), -2);
        for (int wrong : new int[] {-1, 2}) {
            due("forces(" + wrong + ", 0)", x.forces(wrong, 0), -2);
            due("power(" + wrong + ")", x.power(wrong), -2);
            due("ally(" + wrong + ", 0)", x.ally(wrong, 0), -2);
        }
        due("forces(0, 4)", x.forces(0, 4), -2);
        due("forces(0, -1)", x.forces(0, -1), -2);
        due("ally(0, 4)", x.ally(0, 4), -2);
        x = Check.made("farms 3 moments 3;bit 0 to 1;bit 1 to 2;bit 0 to 0;tells : farm = 1 and bit = 0 or farm = 2 and not bit = 0;");
        due("it must be silent", x.best(0, 2), -1);
        due("others are led by what they may", x.forces(0, 2), 3);
        due("power(0)", x.power(0), 7);
        x = Check.made("farms 2 moments 2;bit 0 to 0;bit 0 to 1;tells : bit = 0 or farm = 1;");
        due("the other one need not", x.forces(0, 1), -1);
        due("with its help", x.ally(0, 1), 1);
        due("its own", x.forces(1, 1), 2);
        due("nobody's help", Check.made("farms 2 moments 2;").ally(0, 1), -1);
        x = Check.made("farms 2 moments 3;bit 0 to 1;bit 1 to 2;hears : 0 = 1;");
        due("all hear all in the game", x.forces(0, 2), 2);
        due("tell(1, 0)", x.tell(1, 0), 0);
        due("the game begins at one's own moment", x.forces(1, 2), 1);
        due("that of another one", x.forces(0, 2), 2);
    }

    /** Promises 33 to 35. */
    private static void atOne() {
        PartyLine x = Check.made("farms 3 moments 4;bit 0 to 1;bit 0 to 2;bit 1 to 2;bit 2 to 3;bit 2 to 1;bit 1 to 3;cut 0;cut 1;");
        due("tales()", x.tales(), 1);
        due("joins(0, 1)", x.joins(0, 1), 0);
        due("joinBy(0, 1, 0)", x.joinBy(0, 1, 0), -1);
        due("tell(0, 0)", x.tell(0, 0), 0);
        due("tales()", x.tales(), 2);
        due("joins(0, 1)", x.joins(0, 1), 1);
        due("joinBy(0, 1, 0)", x.joinBy(0, 1, 0), 100);
        due("joinBy(1, 0, 0)", x.joinBy(1, 0, 0), 100);
        due("joinBy(1, 0, 1)", x.joinBy(1, 0, 1), -1);
        due("joinBy(1, 0, -1)", x.joinBy(1, 0, -1), -3);
        due("joinBy(1, 1, -1)", x.joinBy(1, 1, -1), -2);
        due("joinBy(3, 1, 0)", x.joinBy(3, 1, 0), -2);
        due("tell(2, 1)", x.tell(2, 1), 0);
        due("tales()", x.tales(), 3);
        due("joins(0, 2)", x.joins(0, 2), 1);
        due("the first deed", x.joinBy(2, 0, 0), 2);
        due("tell(2, 3)", x.tell(2, 3), 0);
        due("joins(1, 2)", x.joins(1, 2), 2);
        due("joinBy(1, 2, 0)", x.joinBy(1, 2, 0), 100);
        due("joinBy(1, 2, 1)", x.joinBy(1, 2, 1), 105);
        due("cut(1): whole again", x.cut(1), 0);
        due("heard by the other one", x.joins(1, 2), 1);
        due("joins(0, 0)", x.joins(0, 0), -2);
        due("joins(0, 3)", x.joins(0, 3), -2);
        due("joins(-1, 0)", x.joins(-1, 0), -2);
        x = Check.made("farms 2 moments 2;bit 0 to 1;cut 0;tells : farm = 0;");
        due("tell(0, 0)", x.tell(0, 0), 0);
        due("they can't", x.joins(0, 1), -1);
        due("they can't", x.joinBy(0, 1, 0), -1);
        due("a tell that nobody hears joins two", Check.made("farms 2 moments 2;").joins(1, 0), 0);
    }

    /** Promises 36, 37. */
    private static void seen() {
        PartyLine x = Check.made("farms 2 moments 4;bit 0 to 1;bit 0 to 1;bit 1 to 2;bit 0 to 2;bit 2 to 2;bit 2 to 3;tells : not bit = 1 or mood = 1;");
        due("rows(0, 0)", x.rows(0, 0), -6);
        due("rows(0, 4): no such goes ahead", x.rows(0, 4), -2);
        due("rows(4, 0)", x.rows(4, 0), -2);
        due("rows(-1, 0)", x.rows(-1, 0), -2);
        Check.lay(x, 0, 1);
        due("none", x.rows(0, 0), -4);
        due("none", x.sureBit(0, 0, 0), -4);
        Check.lay(x, 0, 1, -1, -1, -1, -1, -1, -1, -1, -1, -1, -1, -1, -1, -1);
        due("thirteen", x.rows(0, 0), -4);
        Check.lay(x, 0, 1, -1, 4);
        due("no moment", x.rows(0, 0), -3);
        due("no moment goes ahead of no place", x.sureBit(0, 0, 5), -3);
        Check.lay(x, 0, 1, -1, -2);
        due("nor NONE", x.rows(0, 0), -3);
        Check.lay(x, 0, 1, -1, 2);
        due("rows(0, 0)", x.rows(0, 0), 2);
        due("not sure", x.sureBit(0, 0, 0), -1);
        due("no place", x.sureBit(0, 0, 2), -7);
        due("no place", x.sureBit(0, 0, -1), -7);
        due("mood(0, 1)", x.mood(0, 1), 0);
        due("rows(0, 0): one more may be told", x.rows(0, 0), 3);
        due("from 3 none", x.rows(0, 3), 0);
        due("from 3 none is sure", x.sureBit(0, 3, 0), -1);
        Check.lay(x, 0, 0, -1, -1, 3);
        due("rows to 3", x.rows(0, 0), 3);
        due("sure at the end", x.sureBit(0, 0, 2), 5);
        due("not at first", x.sureBit(0, 0, 0), -1);
        Check.lay(x, 0, 2, 1, -1, 3);
        due("rows over 1", x.rows(0, 0), 2);
        due("sure at last but one", x.sureBit(0, 0, 1), 2);
        due("not at first: two alike", x.sureBit(0, 0, 0), -1);
        Check.lay(x, 0, 3, 2, -1, -1, -1, -1, -1, -1, -1, -1, -1, -1, 3);
        due("twelve", x.rows(0, 2), 1);
        due("sure in the middle", x.sureBit(0, 2, 6), 4);
        Check.lay(x, 0, 3, 2, 4294967297L);
        due("a long number is no moment", x.rows(0, 0), -3);
        StringBuilder many = new StringBuilder("farms 2 moments 2;");
        for (int i = 0; i < 12; i++) {
            many.append("bit 0 to 0;");
        }
        x = Check.made(many.toString());
        Check.lay(x, 1, 0, -1, -1, -1, -1, -1, -1, -1, -1, -1, -1, -1, -1);
        due("12 to the 12th", x.rows(1, 0), 8916100448256L);
    }

    /** Promises 38, 39. */
    private static void told() {
        PartyLine x = Check.made("farms 3 moments 3;bit 0 to 1;bit 1 to 2;bit 2 to 2;bit 0 to 0;tells : bit = 0 and farm = 1 or bit = 1 or bit = 2 and farm < 2;");
        due("tellers(0)", x.tellers(0), -6);
        due("tellers(4)", x.tellers(4), -2);
        due("tellers(-1)", x.tellers(-1), -2);
        due("teller(4, 0)", x.teller(4, 0), -2);
        due("teller(0, 0)", x.teller(0, 0), -6);
        Check.lay(x, 0, 0);
        due("none", x.tellers(0), -4);
        Check.lay(x, 0, 0, 0, 4);
        due("no bit", x.tellers(0), -3);
        due("no bit goes ahead of no place", x.teller(0, 9), -3);
        Check.lay(x, 0, 0, -1);
        due("NONE is no bit", x.tellers(0), -3);
        Check.lay(x, 0, 0, 0, 1, 2);
        due("tellers(0)", x.tellers(0), 3);
        due("teller(0, 0)", x.teller(0, 0), 2);
        due("teller(0, 1)", x.teller(0, 1), 5);
        due("teller(0, 2)", x.teller(0, 2), 3);
        due("teller(0, 3)", x.teller(0, 3), -7);
        due("teller(0, -1)", x.teller(0, -1), -7);
        Check.lay(x, 0, 0, 0, 0);
        due("none two bits one behind the other", x.tellers(0), 0);
        due("nobody", x.teller(0, 1), 0);
        Check.lay(x, 0, 0, 3);
        due("nobody may", x.tellers(0), 0);
        Check.lay(x, 0, 0, 2, 0);
        due("bits need not lead to one another", x.tellers(0), 1);
        Check.lay(x, 0, 0, 1, 1, 1, 1, 1, 1, 1, 1, 1, 1, 1, 1, 1);
        due("thirteen", x.tellers(0), -4);
        Check.lay(x, 0, 0, 1, 1, 1, 1, 1, 1, 1, 1, 1, 1, 1, 1);
        due("twelve", x.tellers(0), 3 * 2048);
        x = Check.made("farms 8 moments 2;bit 0 to 0;");
        Check.lay(x, 0, 0, 0, 0, 0, 0, 0, 0, 0, 0, 0, 0, 0, 0);
        due("eight farms", x.tellers(0), 15818613944L);
    }

    /** Promises 40, 41. */
    private static void wishes() {
        PartyLine x = Check.made("farms 2 moments 3;farm 0 wish 1;farm 1 wish 1;bit 0 to 2;cut 0;");
        due("better()", x.better(), 2);
        due("fairest()", x.fairest(), 1);
        x = Check.made("farms 2 moments 3;farm 0 wish 1;farm 1 wish 2;bit 0 to 2;cut 0;");
        due("better(): none less, some one more", x.better(), 6);
        due("fairest(): the first", x.fairest(), 0);
        due("tell(1, 0)", x.tell(1, 0), 0);
        due("better(): farm 1 has its wish", x.better(), 0);
        x = Check.made("farms 2 moments 4;likes : (moment - 2) * (moment - 2) * (1 - 2 * farm) + 9;now 2;");
        due("likes(1, 0)", x.likes(1, 0), 5);
        due("better()", x.better(), 0);
        due("fairest()", x.fairest(), 2);
        x = Check.made("farms 3 moments 4;likes : 0 - (moment - farm) * (moment - farm);");
        due("fairest()", x.fairest(), 1);
        due("better()", x.better(), 0);
        due("likes below nothing", x.likes(2, 0), -4);
    }

    /** Promises 42, 43. */
    private static void snowfall() {
        PartyLine x = Check.made("farms 8 moments 2;snow 3 at 0;snow 5 at 1;snow 10 at 2;snow 1 at 3;snow 9 at 4;snow 4 at 5;snow 0 at 6;");
        fraction(x, 0, 1, 7, 10);
        fraction(x, 1, 0, 7, 10);
        fraction(x, 0, 2, 7, 20);
        fraction(x, 2, 3, 0, 1);
        fraction(x, 0, 7, 0, 1);
        fraction(x, 3, 7, 27, 500);
        fraction(x, 6, 7, 1, 1);
        due("left(0, 0)", x.left(0, 0), 7);
        due("left(0, 1)", x.left(0, 1), 2);
        due("left(0, 35)", x.left(0, 35), 2);
        due("left(0, 36)", x.left(0, 36), 1);
        due("left(0, 70)", x.left(0, 70), 1);
        due("left(0, 71)", x.left(0, 71), 0);
        due("left(7, 100)", x.left(7, 100), 1);
        due("left(0, 101)", x.left(0, 101), -3);
        due("left(0, -1)", x.left(0, -1), -3);
        due("left(8, 101)", x.left(8, 101), -2);
        due("left(-1, 0)", x.left(-1, 0), -2);
        due("cut(6)", x.cut(6), 1);
        fraction(x, 6, 7, 0, 1);
        due("left(7, 1)", x.left(7, 1), 0);
        due("left(7, 0)", x.left(7, 0), 7);
        due("snow(0, 0, 0)", x.snow(0, 0, 0), -2);
        due("snow(0, 8, 0)", x.snow(0, 8, 0), -2);
        due("snow(-1, 0, 0)", x.snow(-1, 0, 0), -2);
        due("snow(0, 1, 2)", x.snow(0, 1, 2), -2);
        due("snow(0, 1, -1)", x.snow(0, 1, -1), -2);
        x = Check.made("farms 8 moments 2;snow 1 at 0;snow 1 at 1;snow 1 at 2;snow 1 at 3;snow 1 at 4;snow 1 at 5;snow 1 at 6;hears : 0 = 1;");
        fraction(x, 0, 7, 4782969, 10000000);
        due("snow is of wires, not of laws", x.left(0, 90), 1);
    }

    private static void fraction(PartyLine x, int f, int g, long above, long below) {
        due("snow(" + f + ", " + g + ", 0)", x.snow(f, g, 0), above);
        due("snow(" + f + ", " + g + ", 1)", x.snow(f, g, 1), below);
    }

    /** Promises 44, 45. */
    private static void trays() {
        PartyLine x = new PartyLine();
        due("write(0, 0, 1)", x.write(0, 0, 1), -6);
        due("write(4, 0, 1)", x.write(4, 0, 1), -2);
        due("write(-1, 0, 1)", x.write(-1, 0, 1), -2);
        due("numbers(4, 0, 1)", x.numbers(4, 0, 1), -2);
        due("numbers(-1, 0, 1)", x.numbers(-1, 0, 1), -2);
        due("numbers(0, 4, 99)", x.numbers(0, 4, 99), -2);
        due("numbers(0, -1, 1)", x.numbers(0, -1, 1), -2);
        due("numbers(0, 0, 41)", x.numbers(0, 0, 41), -3);
        due("numbers(0, 0, -1)", x.numbers(0, 0, -1), -3);
        due("still missing", x.write(0, 0, 1), -6);
        long v = 0x123456789abcdef0L;
        long[] cut = {-16, -8464, -1698898192, v};
        for (int sort = 0; sort < 4; sort++) {
            due("numbers", x.numbers(sort, sort, 40), 0);
            due("write(" + sort + ", 39)", x.write(sort, 39, v), cut[sort]);
            due("write(" + sort + ", 40)", x.write(sort, 40, v), -7);
            due("write(" + sort + ", -1)", x.write(sort, -1, v), -7);
            due("-1 is -1", x.write(sort, 0, -1), -1);
        }
        due("write 128 of 8 bits", x.write(0, 0, 128), -128);
        due("write 127 of 8 bits", x.write(0, 0, 127), 127);
        due("write 32768 of 16 bits", x.write(1, 0, 32768), -32768);
        due("write 2147483648 of 32 bits", x.write(2, 0, 2147483648L), -2147483648L);
        x = Check.made("farms 2 moments 2;bit 0 to 1;");
        Check.lay(x, 0, 1, 1000, 1000, 0);
        due("numbers(0, 1, 50): the tray stays", x.numbers(0, 1, 50), -3);
        due("it does", x.judge(0, 0), -1);
        due("three deeds", x.perform(0), 3);
        due("undo(1)", x.undo(1), 0);
        due("numbers(0, 1, 1)", x.numbers(0, 1, 1), 0);
        due("all 0: farm 0 tells bit 0", x.perform(0), 1);
        due("it did", x.count(6), 1);
        Check.lay(x, 1, 0, 1000 - 1024 + 1);
        due("8 bits hold no wire", x.judge(1, 1), 1);
    }

    /** Promises 47, 48. */
    private static void images() {
        PartyLine x = new PartyLine();
        for (int wrong : new int[] {-1, 2}) {
            due("image(" + wrong + ")", x.image(wrong), -2);
            due("restore(" + wrong + ")", x.restore(wrong), -2);
        }
        due("restore(0)", x.restore(0), -5);
        due("restore(1)", x.restore(1), -5);
        due("image(1)", x.image(1), 0);
        due("the other one wasn't made", x.restore(0), -5);
        String first = Check.sight(x);
        due("a text", Check.line(x, TALE + "tells : not farm = 1;likes : mood + moment * 2;hears : far < 2;snow 3 at 1;farm 2 wish 1 mood 4;cut 0;"), 12);
        x.go(3);
        x.mood(1, 8);
        x.cut(1);
        due("image(0)", x.image(0), 0);
        due("an image leaves what can be undone", x.count(8), 3);
        String second = Check.sight(x).replace(" 3 0 12 ", " 0 0 12 ");
        Check.lay(x, 2, 3, 77);
        due("restore(1)", x.restore(1), 0);
        Check.holds("the new object's line", Check.sight(x).equals(first));
        due("no lines", x.count(10), 0);
        due("trays stay", x.perform(2), 0);
        x.mood(0, 3);
        due("feed", x.feed(0, 0, 0, 0, 0), 20);
        due("restore(0)", x.restore(0), 0);
        due("the tape stays", x.count(9), 20);
        due("nothing can be undone behind", x.count(8), 0);
        due("nothing can be undone behind", x.undo(1), -3);
        due("line", x.line(0), -32);
        Check.holds("all that is in the image is as it was", Check.sight(x).equals(second.replace(" 0 -1", " 2 0")));
        x.go(9);
        x.mood(0, 9);
        due("restore(0) again", x.restore(0), 0);
        Check.holds("and again", Check.sight(x).equals(second.replace(" 0 -1", " 2 0")));
        due("image(1) anew", x.image(1), 0);
        x.cut(0);
        due("restore(1)", x.restore(1), 0);
        Check.holds("the newer image", Check.sight(x).equals(second.replace(" 0 -1", " 2 0")));
    }

    private static void refusedCallsChangeNothing() {
        PartyLine x = Check.made(TALE + "tells : not farm = 1;");
        Check.lay(x, 0, 1, -1, 900);
        x.go(2);
        String before = Check.sight(x);
        long[] refused = {x.tell(0, 99), x.tell(0, 0), x.tell(1, 3), x.cut(7), x.mood(0, 10), x.go(0), x.undo(9), x.judge(9, 0), x.perform(3),
            x.winter(1, 0), x.line(-1), x.line(1), x.numbers(0, 1, 41), x.write(0, 2, 1), x.lists(0, 3, 0), x.image(2), x.restore(0),
            x.rows(0, 9), x.tellers(0), x.snow(1, 1, 0), x.left(0, 101)};
        for (long code : refused) {
            Check.holds("refused by " + code, code <= -2);
        }
        Check.holds("refused calls change nothing", Check.sight(x).equals(before));
        due("nor the tray", x.judge(0, 0), 1);
    }
}
