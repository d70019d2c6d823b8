/** The boundary cases of "Terms", ==== 1: texts, their lines, laws, tokens and faults. */
public final class TextEdgesTest extends Edges {
    private static final String TWO = "farms 2 moments 2;";
    private static final String LAWFUL = "farms 8 moments 8;farm 3 mood 5;bit 2 to 6;bit 3 to 1;";

    private TextEdgesTest() {
    }

    public static void main(String[] args) throws Exception {
        runAll(TextEdgesTest.class);
    }

    /** Farms that may tell bit 1, from moment 3 to 1, by a law. */
    private static void may(String law, int farms) {
        due("may tell by " + law, fine(LAWFUL + "tells:" + law + ";", 5).bit(1, 3), farms);
    }

    /** How much farm 3, of mood 5, likes moment 6 by a law. */
    private static void liking(String law, int want) {
        due("likes by " + law, fine(LAWFUL + "likes:" + law + ";", 5).likes(3, 6), want);
    }

    private static PartyLine fed(String text) {
        PartyLine x = new PartyLine();
        Check.feed(x, text);
        return x;
    }

    private static String bits(int n) {
        return "farms 2 moments 3;" + "bit 0 to 1;".repeat(n);
    }

    // ---- the text and its lines

    static void atMost900Bytes() {
        sentence("Terms", "THE LINE is a TEXT of at most 900 bytes");
        String text = TWO + "likes:1" + "+1".repeat(437) + ";";
        due("bytes", text.length(), 900);
        due("the law's last number counts", fine(text, 2).likes(0, 0), 438);
        faultyAt(2, 899, text.substring(0, 899));
        refusedIn(() -> fed(text), "line(901)", x -> x.line(901), -3);
        refusedIn(() -> fed(text), "a 901st byte", x -> x.feed(0x20202020, 0x20202020, 0x20202020, 0x20202020, 0x20202020), -5);
    }

    static void withoutAText() {
        sentence("Terms", "(without one: 2 FARMS, 2 MOMENTS, no BITS):");
        PartyLine x = new PartyLine();
        due("farms", x.count(0), 2);
        due("moments", x.count(1), 2);
        due("bits", x.count(2), 0);
        due("farm 1", x.farm(1, 0), 0);
        due("moment 1", x.reach(1), 2);
        refusedIn(PartyLine::new, "farm 2", y -> y.farm(2, 0), -2);
        refusedIn(PartyLine::new, "moment 2", y -> y.reach(2), -2);
        refusedIn(PartyLine::new, "bit 0", y -> y.bit(0, 0), -2);
    }

    static void farmsFirstThenLines() {
        sentence("Terms", "farms N moments N ; { LINE ; }");
        fine(TWO, 1);
        fine(TWO + "now 1;", 2);
        fine(TWO + "cut 0;".repeat(147), 148);
        for (String marked : new String[] {"^", "farms^", "farms ^moments 2;", "farms ^;", "farms 2^", "farms 2 ^2;", "farms 2 ^;",
            "farms 2 moments^", "farms 2 moments ^;", "farms 2 moments 2^", "farms 2 moments 2 ^2;", "farms 2 moments 2 ^now 1;",
            TWO + "^;", TWO + "now 1^", TWO + "now 1 ^now 1;", TWO + "now 1;^;", TWO + "^1;", TWO + "^=;"}) {
            faulty(2, marked);
        }
    }

    static void bitLines() {
        sentence("Terms", "LINE: bit N to N [ must ] |");
        PartyLine x = fine(TWO + "bit 0 to 1;bit 1 to 0 must;", 3);
        due("without must", x.bit(0, 2), 0);
        due("with must", x.bit(1, 2), 1);
        for (String line : new String[] {"bit^", "bit ^;", "bit ^to 1;", "bit 0^", "bit 0 ^;", "bit 0 ^1;", "bit 0 ^must;", "bit 0 to^",
            "bit 0 to ^;", "bit 0 to ^must;", "bit 0 to 1^", "bit 0 to 1 ^1;", "bit 0 to 1 ^to;", "bit 0 to 1 must^",
            "bit 0 to 1 must ^must;", "bit 0 to 1 must ^1;"}) {
            faulty(2, TWO + line);
        }
    }

    static void farmLines() {
        sentence("Terms", "farm N { FLAG } |");
        PartyLine x = fine(TWO + "farm 0;farm 1 mood 3;farm 1 wish 1;", 4);
        due("no flag: mood", x.farm(0, 2), 0);
        due("no flag: wish", x.farm(0, 3), 0);
        due("one flag: mood", x.farm(1, 2), 3);
        due("one flag: wish", x.farm(1, 3), 1);
        due("as many flags as a text can hold", fine(TWO + "farm 0" + " mood 9".repeat(124) + " mood 4;", 2).farm(0, 2), 4);
        for (String line : new String[] {"farm^", "farm ^;", "farm ^wish 1;", "farm 0^", "farm 0 ^1;", "farm 0 ^must;", "farm 0 ^snow 1;",
            "farm 0 wish 1 ^1;", "farm 0 wish 1 ^farm 1;"}) {
            faulty(2, TWO + line);
        }
    }

    static void flags() {
        sentence("Terms", "FLAG: wish N | mood N.");
        PartyLine x = fine(TWO + "farm 0 wish 1 mood 9;farm 1 mood 8 wish 1;", 3);
        due("wish, then mood: wish", x.farm(0, 3), 1);
        due("wish, then mood: mood", x.farm(0, 2), 9);
        due("mood, then wish: wish", x.farm(1, 3), 1);
        due("mood, then wish: mood", x.farm(1, 2), 8);
        for (String line : new String[] {"farm 0 wish^", "farm 0 wish ^;", "farm 0 wish ^mood 1;", "farm 0 mood^", "farm 0 mood ^;",
            "farm 0 mood ^wish 1;", "farm 0 mood ^mood 1;"}) {
            faulty(2, TWO + line);
        }
    }

    static void cutLines() {
        sentence("Terms", "cut N |");
        due("cut", fine(TWO + "cut 0;", 2).count(4), 1);
        for (String line : new String[] {"cut^", "cut ^;", "cut ^at 0;", "cut 0^", "cut 0 ^0;"}) {
            faulty(2, TWO + line);
        }
    }

    static void snowLines() {
        sentence("Terms", "snow N at N |");
        due("snow", fine(TWO + "snow 7 at 0;", 2).wire(0, 1), 7);
        for (String line : new String[] {"snow^", "snow ^;", "snow ^at 0;", "snow 3^", "snow 3 ^;", "snow 3 ^0;", "snow 3 ^to 0;",
            "snow 3 at^", "snow 3 at ^;", "snow 3 at 0^", "snow 3 at 0 ^at 0;", "snow 3 at 0 ^0;"}) {
            faulty(2, TWO + line);
        }
    }

    static void lawLines() {
        sentence("Terms", "tells : TRUTH | hears : TRUTH | likes : SUM |");
        PartyLine x = fine(TWO + "bit 0 to 1;tells:1=2;hears:1=2;likes:12;", 5);
        due("tells", x.bit(0, 3), 0);
        due("hears", x.farm(0, 4), 0);
        due("likes", x.likes(1, 1), 12);
        for (String law : new String[] {"tells", "hears", "likes"}) {
            faulty(2, TWO + law + "^");
            faulty(2, TWO + law + " ^1=1;");
            faulty(2, TWO + law + " ^;");
            faulty(2, TWO + law + "^;now 9;");
            faulty(2, TWO + law + ":^");
            faulty(2, TWO + law + ":^;");
            faulty(2, TWO + law + ":^:1;");
        }
        faulty(2, TWO + "tells:1^;");
        faulty(2, TWO + "hears:1^;");
        faulty(2, TWO + "likes:1^=1;");
        faulty(2, TWO + "tells:1=1^");
        faulty(2, TWO + "hears:1=1 ^hears:1=1;");
        faulty(2, TWO + "likes:1^:");
    }

    static void nowLines() {
        sentence("Terms", "now N.");
        due("now", fine(TWO + "now 1;", 2).farm(1, 0), 1);
        for (String line : new String[] {"now^", "now ^;", "now ^now;", "now 1^", "now 1 ^1;"}) {
            faulty(2, TWO + line);
        }
    }

    // ---- laws

    static void truths() {
        sentence("Terms", "TRUTH: BOTH { or BOTH };");
        may("farm=0", 1);
        may("farm=0 or farm=5", 33);
        may("farm=0 or farm=1 or farm=2 or farm=3 or farm=4 or farm=5 or farm=6 or farm=7", 255);
        may("farm=0 or farm=1 and farm=2", 1);
        may("farm=1 and farm=2 or farm=0", 1);
        for (String law : new String[] {"^or 1=1;", "1=1 or^", "1=1 or ^;", "1=1 or ^or 1=1;", "1=1 or ^and 1=1;", "1 ^or 1=1;"}) {
            faulty(2, TWO + "tells:" + law);
        }
        faulty(2, TWO + "likes:1 ^or 1;");
    }

    static void boths() {
        sentence("Terms", "BOTH: UNIT { and UNIT };");
        may("farm<6", 63);
        may("farm<6 and farm>2", 56);
        may("farm<7 and farm<6 and farm<5 and farm<4 and farm<3 and farm>0 and farm>1", 4);
        for (String law : new String[] {"^and 1=1;", "1=1 and^", "1=1 and ^;", "1=1 and ^and 1=1;", "1=1 and ^or 1=1;", "1 ^and 1=1;"}) {
            faulty(2, TWO + "tells:" + law);
        }
        faulty(2, TWO + "likes:1 ^and 1;");
    }

    static void units() {
        sentence("Terms", "UNIT: not UNIT, [ TRUTH ], or SUM, one of = < >, SUM.");
        may("not farm=0", 254);
        may("not not farm=0", 1);
        may("not farm=0 and farm<2", 2);
        may("not farm=0 or farm=0", 255);
        may("not [farm=0 or farm=1]", 252);
        may("[farm=0 or farm=1] and farm>0", 2);
        may("farm<3", 7);
        may("farm=3", 8);
        may("farm>3", 240);
        for (String law : new String[] {"farm^;", "farm=^;", "farm=1^=1;", "farm<1^>1;", "not ^;", "not ^or 1=1;", "not ^and 1=1;", "[^];",
            "[farm^]=1;", "[farm=1^;", "[farm=1^", "farm=1^];", "[farm=1]^];", "[farm=1^);", "(farm^=1);", "farm=^not 1=1;", "farm=^[1=1];",
            "[farm=1]^=1;", "[farm=1]^+1=1;", "[farm=1]^[farm=1];", "farm=1 ^not farm=1;", "farm=1 ^farm=1;", "(^not 1=1);", "(^[1=1]);", "^=1;"}) {
            faulty(2, TWO + "tells:" + law);
        }
        faulty(2, TWO + "likes:^not 1;");
        faulty(2, TWO + "likes:^[1];");
    }

    static void sums() {
        sentence("Terms", "SUM: TERM { + TERM | - TERM };");
        liking("7", 7);
        liking("7+1", 8);
        liking("7-1", 6);
        liking("7-1-1", 5);
        liking("7-1+1", 7);
        liking("7-(1+1)", 5);
        liking("1" + "+1".repeat(400), 401);
        for (String law : new String[] {"^+1;", "^-1;", "1+^;", "1-^;", "1+^", "1+^+1;", "1-^-1;", "1+^-1;", "1 ^1;", "farm ^mood;"}) {
            faulty(2, TWO + "likes:" + law);
        }
    }

    static void terms() {
        sentence("Terms", "TERM: ATOM { * ATOM };");
        liking("2*3*4", 24);
        liking("2+3*4", 14);
        liking("2*3+4", 10);
        liking("20-2*3", 14);
        liking("2*3-4", 2);
        liking("1" + "*1".repeat(400), 1);
        for (String law : new String[] {"^*1;", "1*^;", "1*^", "1*^*1;", "1+^*1;", "1*^+1;"}) {
            faulty(2, TWO + "likes:" + law);
        }
    }

    static void atoms() {
        sentence("Terms", "ATOM: N, ( SUM ), farm, mood, in tells bit, from, to, in hears teller, far, in likes moment too.");
        liking("0", 0);
        liking("999", 999);
        liking("(1+2)*3", 9);
        liking("((7))", 7);
        String[] names = {"farm", "mood", "bit", "from", "to", "teller", "far", "moment"};
        int[] inTells = {3, 5, 1, 3, 1, -1, -1, -1};
        int[] inHears = {3, 5, -1, -1, -1, 1, 2, -1};
        int[] inLikes = {3, 5, -1, -1, -1, -1, -1, 6};
        for (int i = 0; i < names.length; i++) {
            if (inTells[i] >= 0) {
                may("farm=3 and " + names[i] + "=" + inTells[i], 8);
                may("farm=3 and " + names[i] + "=" + (inTells[i] + 1), 0);
            }
            if (inHears[i] >= 0) {
                String law = LAWFUL + "hears:teller=1 and " + names[i] + "=";
                due("hears by " + law, fine(law + inHears[i] + ";", 5).farm(3, 4), 2);
                due("hears by another number", fine(law + (inHears[i] + 1) + ";", 5).farm(3, 4), 0);
            }
            if (inLikes[i] >= 0) {
                liking(names[i], inLikes[i]);
            }
        }
        for (String law : new String[] {"(^);", "(1^;", "(1^", "1^);", "(1^];", "(1 ^1);", "(1)^(1);", "(1)^1;", "1^(1);", "^);", "^now;", "^wish;",
            "^must;", "^farms;", "^moments;", "^tells;", "^at;", "^:;"}) {
            faulty(2, TWO + "likes:" + law);
        }
    }

    static void sixWithinOneAnother() {
        sentence("Terms", "At most six of not [ ( within one another.");
        liking("((((((8))))))", 8);
        faulty(4, TWO + "likes:((((((^(8)))))));");
        may("not not not not not not farm=0", 1);
        faulty(4, TWO + "tells:not not not not not not ^not farm=0;");
        may("[[[[[[farm=0]]]]]]", 1);
        faulty(4, TWO + "tells:[[[[[[^[farm=0]]]]]]];");
        may("not [not [not (farm)=0]]", 254);
        faulty(4, TWO + "tells:not [not [not (^(farm))=0]];");
        faulty(4, TWO + "tells:not [not [not (farm)=(^(0))]];");
        faulty(4, TWO + "tells:not [not [not [^[farm=0]]]];");
        faulty(4, TWO + "hears:[[not [not [^not farm=0]]]];");
        may("[[[[[farm=(0)]]]]]", 1);
        faulty(4, TWO + "tells:[[[[[[farm=^(0)]]]]]];");
        faulty(4, TWO + "tells:not not not not not not farm=^(0);");
    }

    static void sideBySideIsNotWithin() {
        sentence("Terms", "within one another.");
        liking("(1)+(1)+(1)+(1)+(1)+(1)+(1)+(1)", 8);
        liking("((((((1))))))+((((((1))))))", 2);
        may("[farm=0] or [farm=1] or [farm=2] or [farm=3] or [farm=4] or [farm=5] or [farm=6] or [farm=7]", 255);
        may("[[[[[[farm=0]]]]]] or [[[[[[farm=1]]]]]]", 3);
        may("not farm=0 and not farm=1 and not farm=2 and not farm=3 and not farm=4 and not farm=5 and not farm=6", 128);
        may("not not not not not not farm=0 or not not not not not farm>1", 3);
        may("not not not not not (farm)=(0)", 254);
        may("[not not not not not farm=0] and not not not not not [farm=1]", 252);
        faulty(4, TWO + "tells:[[[[[[farm=0]]]]]] or [[[[[[^[farm=1]]]]]]];");
        faulty(4, TWO + "likes:((((((1))))))+((((((^(1)))))));");
    }

    // ---- bounds

    static void twoToEightOfEach() {
        sentence("Terms", "farms, moments: 2 to 8 each, numbered from 0 on.");
        for (int n : new int[] {0, 1, 9, 10, 999}) {
            faulty(3, "farms ^" + n + " moments 2;");
            faulty(3, "farms 2 moments ^" + n + ";");
        }
        for (int n : new int[] {2, 8}) {
            PartyLine x = fine("farms " + n + " moments " + (10 - n) + ";", 1);
            due("farms", x.count(0), n);
            due("moments", x.count(1), 10 - n);
            due("the first farm", x.farm(0, 0), 0);
            due("the last farm", x.farm(n - 1, 0), 0);
            due("behind the last farm", x.farm(n, 0), -2);
            due("the first moment", x.reach(0), 1);
            due("the last moment", x.reach(9 - n), 1 << 9 - n);
            due("behind the last moment", x.reach(10 - n), -2);
        }
    }

    /** Eight farms, eight moments, twelve bits and laws of all sorts: nothing lies behind its end. */
    static void theLargestLine() {
        sentence("Terms", "farms, moments: 2 to 8 each,");
        PartyLine x = fine("farms 8 moments 8;bit 0 to 1;bit 1 to 2;bit 2 to 3;bit 3 to 4;bit 4 to 5;bit 5 to 6;bit 6 to 7;bit 7 to 0;"
            + "bit 7 to 6;bit 7 to 5;bit 7 to 4;bit 7 to 7 must;tells:farm+bit<99;hears:far<9;likes:moment*farm;"
            + "snow 1 at 6;farm 7 wish 7 mood 9;now 7;", 19);
        due("what farm 7 hears", x.farm(7, 4), 127);
        due("what farm 7 can tell", x.farm(7, 5), 3968);
        due("who may tell bit 11", x.bit(11, 3), 255);
        due("likes(7, 7)", x.likes(7, 7), 49);
        due("tell(7, 11)", x.tell(7, 11), 7);
        due("doubts", x.count(7), 0);
        due("tales", x.tales(), 1);
        due("who hears farm 7", x.heardBy(7), 127);
        due("the best ear", x.ear(), 0);
        due("needs", x.needs(0, 7), 127);
        due("listeners", x.listeners(), 1);
        due("reach", x.reach(7), 255);
        due("fewest", x.fewest(0, 7), 7);
        due("ways", x.ways(7, 7, 1), 1);
        due("full", x.full(6, 0), 3);
        due("its last bit", x.fullWay(6, 0, 2), 7);
        due("ends", x.ends(), 0);
        due("forces: others can keep to 5, 6, 7", x.forces(7, 4), -1);
        due("power: from 0 on all goes its way", x.power(0), 255);
        due("best", x.best(0, 4), 10);
        due("ally", x.ally(7, 1), 0);
        due("joins", x.joins(6, 7), 0);
        Check.lay(x, 3, 3, -1, -1, -1, -1, -1, -1, -1, -1, -1, -1, -1, 7);
        due("rows", x.rows(3, 7) > 0 ? 1 : 0, 1);
        due("better", x.better(), 0);
        due("fairest", x.fairest(), 0);
        due("snow", x.snow(7, 0, 0), 9);
        due("left", x.left(7, 90), 7);
        due("go(8)", x.go(8), 8);
        due("the turn", x.count(5), 0);
    }

    static void fromMomentToMoment() {
        sentence("Terms", "bit: from a MOMENT to one (the same, too),");
        PartyLine x = fine("farms 2 moments 3;bit 0 to 2;bit 2 to 0;bit 1 to 1;bit 0 to 0;bit 2 to 2;", 6);
        int[][] bits = {{0, 2}, {2, 0}, {1, 1}, {0, 0}, {2, 2}};
        for (int b = 0; b < bits.length; b++) {
            due("from of " + b, x.bit(b, 0), bits[b][0]);
            due("to of " + b, x.bit(b, 1), bits[b][1]);
        }
        faulty(3, "farms 2 moments 3;bit ^3 to 0;");
        faulty(3, "farms 2 moments 3;bit 0 to ^3;");
        faulty(3, "farms 2 moments 3;bit ^999 to 999;");
        fine("farms 2 moments 8;bit 7 to 7;", 2);
        faulty(3, "farms 8 moments 8;bit 7 to ^8;");
    }

    static void twelveBits() {
        sentence("Terms", "numbered from 0 on, 12 at most;");
        PartyLine x = fine(bits(11) + "bit 2 to 0;", 13);
        due("bits", x.count(2), 12);
        due("bit 0", x.bit(0, 0), 0);
        due("bit 11", x.bit(11, 0), 2);
        due("bit 12", x.bit(12, 0), -2);
        due("no bits", fine(bits(0), 1).count(2), 0);
        faulty(4, bits(12) + "^bit 2 to 0;");
    }

    static void mustBeTold() {
        sentence("Terms", "must: it must be told.");
        due("none must", fine(bits(12), 13).count(3), 0);
        due("all must", fine(bits(12).replace("1;", "1 must;"), 13).count(3), 4095);
        PartyLine x = fine(bits(11) + "bit 0 to 1 must;", 13);
        due("the last one must", x.count(3), 2048);
        due("bit 10 need not", x.bit(10, 2), 0);
        due("bit 11 must", x.bit(11, 2), 1);
    }

    static void wishesAndMoods() {
        sentence("Terms", "farm: of a FARM: wish: a MOMENT (0), mood 0 to 9 (0);");
        PartyLine x = fine("farms 3 moments 4;farm 0 wish 0 mood 0;farm 2 wish 3 mood 9;", 3);
        int[][] due = {{0, 0}, {0, 0}, {9, 3}};
        for (int f = 0; f < 3; f++) {
            due("mood of " + f, x.farm(f, 2), due[f][0]);
            due("wish of " + f, x.farm(f, 3), due[f][1]);
        }
        faulty(3, "farms 3 moments 4;farm ^3 wish 0;");
        faulty(3, "farms 3 moments 4;farm ^3;");
        faulty(3, "farms 3 moments 4;farm 2 wish ^4;");
        faulty(3, "farms 3 moments 4;farm 2 mood ^10;");
        faulty(3, "farms 3 moments 4;farm 2 mood 9 wish 3 mood ^999;");
    }

    static void laterFlagsStrike() {
        sentence("Terms", "later ones strike.");
        PartyLine x = fine("farms 2 moments 4;farm 0 wish 3 mood 9 wish 1 mood 4;farm 1 wish 2 mood 5;farm 1 mood 6;farm 1 wish 0;", 5);
        due("a later wish of one line", x.farm(0, 3), 1);
        due("a later mood of one line", x.farm(0, 2), 4);
        due("a later wish of another line", x.farm(1, 3), 0);
        due("a later mood of another line", x.farm(1, 2), 6);
        x = fine("farms 2 moments 4;farm 1 wish 2 mood 5;farm 1;farm 0 wish 1 mood 1;", 4);
        due("no later wish of its own", x.farm(1, 3), 2);
        due("no later mood of its own", x.farm(1, 2), 5);
    }

    static void wiresAreCut() {
        sentence("Terms", "cut: WIRE N (between FARM N and the next one) is CUT;");
        PartyLine x = fine("farms 4 moments 2;cut 1;cut 1;", 3);
        due("cut, though told twice", x.count(4), 2);
        due("ahead of it", x.farm(0, 4), 2);
        due("at its one end", x.farm(1, 4), 1);
        due("at its other end", x.farm(2, 4), 8);
        due("the first and the last wire", fine("farms 8 moments 2;cut 0;cut 6;", 3).count(4), 65);
        faulty(3, "farms 4 moments 2;cut ^3;");
        faulty(3, "farms 8 moments 2;cut ^7;");
    }

    static void snowZeroToTen() {
        sentence("Terms", "snow: how likely, in 10, 0 to 10, of a WIRE (0).");
        PartyLine x = fine("farms 4 moments 2;snow 0 at 0;snow 10 at 2;", 3);
        due("0", x.wire(0, 1), 0);
        due("not told", x.wire(1, 1), 0);
        due("10", x.wire(2, 1), 10);
        faulty(3, "farms 4 moments 2;snow ^11 at 0;");
        faulty(3, "farms 4 moments 2;snow ^999 at 3;");
        faulty(3, "farms 4 moments 2;snow 10 at ^3;");
    }

    static void nowIsAMoment() {
        sentence("Terms", "now: the MOMENT all think the tale is at (0).");
        PartyLine x = fine("farms 3 moments 8;", 1);
        PartyLine y = fine("farms 3 moments 8;now 7;", 2);
        PartyLine z = fine("farms 3 moments 8;now 0;", 2);
        for (int f = 0; f < 3; f++) {
            due("not told: farm " + f, x.farm(f, 0), 0);
            due("the last moment: farm " + f, y.farm(f, 0), 7);
            due("the first moment: farm " + f, z.farm(f, 0), 0);
        }
        faulty(3, "farms 3 moments 8;now ^8;");
        faulty(3, "farms 8 moments 3;now ^3;");
    }

    static void laterLinesStrike() {
        sentence("Terms", "Later ones of a snow, of tells, hears, likes, now strike.");
        PartyLine x = fine("farms 3 moments 3;snow 4 at 0;snow 9 at 1;snow 5 at 0;now 2;now 1;bit 1 to 2;tells:farm=0;tells:farm=1;"
            + "hears:farm=0;hears:farm=1;likes:farm+1;likes:moment;", 13);
        due("snow", x.wire(0, 1), 5);
        due("snow of another wire", x.wire(1, 1), 9);
        due("now", x.farm(0, 0), 1);
        due("tells", x.bit(0, 3), 2);
        due("hears: farm 0", x.farm(0, 4), 0);
        due("hears: farm 1", x.farm(1, 4), 5);
        due("likes", x.likes(2, 1), 1);
        x = fine("farms 3 moments 3;bit 1 to 2;tells:farm=0;likes:moment*2+farm;hears:farm=1;", 5);
        due("another law leaves tells", x.bit(0, 3), 1);
        due("another law leaves likes", x.likes(2, 1), 4);
        due("of a hundred and ten", fine(TWO + "likes:1;".repeat(109) + "likes:2;", 111).likes(0, 0), 2);
    }

    // ---- tokens

    static void asLongAsTheyGoOn() {
        sentence("Terms", "TOKENS, as long as they go on,");
        due("12 is one number", fine(TWO + "likes:12;", 2).likes(0, 0), 12);
        faulty(2, TWO + "likes:1 ^2;");
        faulty(3, "farms 2 moments ^22;");
        fine(TWO + "bit 0 to 1 must;", 2);
        faulty(2, TWO + "bit 0 to 1 ^mustmust;");
        faulty(2, TWO + "^nowx 1;");
        faulty(2, TWO + "^no w 1;");
        faulty(2, TWO + "^no\nw 1;");
        faulty(2, "^farmsmoments 2 2;");
        fine("farms2moments2;bit0to1must;farm0wish1mood3;snow3at0;", 4);
    }

    static void blanksBetween() {
        sentence("Terms", "between them blanks (10, 32):");
        fine("\nfarms\n2\nmoments\n2\n;\nnow\n1\n;\n", 2);
        fine("  farms  2  moments  2  ;  now  1  ;  ", 2);
        fine("\n \nfarms \n2\n moments\n\n2;\n \nnow 1; \n", 2);
        fine("farms2moments2;now1;", 2);
        for (int c : new int[] {0, 8, 9, 11, 12, 13, 31, 33, 127, 138, 160, 255}) {
            faultyAt(1, 5, "farms" + (char) c + "2 moments 2;");
        }
        for (int c : new int[] {10, 32}) {
            fine("farms" + (char) c + "2 moments 2;", 1);
        }
    }

    static void wordsOfSmallLetters() {
        sentence("Terms", "words (small letters),");
        for (char c = 'a'; c <= 'z'; c++) {
            faultyAt(2, 18, TWO + c);
            faultyAt(2, 18, TWO + "now" + c);
        }
        for (char c = 'A'; c <= 'Z'; c++) {
            faultyAt(1, 18, TWO + c);
        }
        faulty(1, TWO + "^`now 1;");
        faulty(1, TWO + "^{now 1;");
        faulty(1, TWO + "^Now 1;");
        faulty(2, TWO + "^noW 1;");
        faulty(1, TWO + "now^W 1;");
    }

    static void numbersOfOneToThreeDigits() {
        sentence("Terms", "N (1 to 3 digits),");
        for (String n : new String[] {"1", "01", "001"}) {
            due("now " + n, fine(TWO + "now " + n + ";", 2).farm(0, 0), 1);
        }
        faulty(1, TWO + "now ^0001;");
        liking("999", 999);
        liking("099", 99);
        liking("000", 0);
        faulty(1, TWO + "likes:^1000;");
        faulty(1, TWO + "likes:1+^0000000001;");
        for (char c = '0'; c <= '9'; c++) {
            liking("5" + c, 50 + c - '0');
        }
        faulty(1, TWO + "likes:5^/;");
        faulty(2, TWO + "likes:5^:;");
    }

    static void signs() {
        sentence("Terms", "the signs ; : + - * ( ) [ ] = < >.");
        for (int c = 0; c < 256; c++) {
            boolean token = c >= 'a' && c <= 'z' || c >= '0' && c <= '9' || ";:+-*()[]=<>".indexOf(c) >= 0;
            if (c == 10 || c == 32) {
                fine(TWO + (char) c, 1);
            } else {
                faultyAt(token ? 2 : 1, 18, TWO + (char) c);
            }
        }
        fine(TWO + "bit 0 to 1;tells:[(farm+1-1)*1=0 or farm<1]and farm>0;", 3);
    }

    // ---- faults

    static void theFirstAlongTheText() {
        sentence("Terms", "FAULTS, the first along the text,");
        faulty(3, "farms ^9 moments 9;");
        faulty(3, "farms 2 moments ^9; @");
        faulty(2, "farms 2 ^2 moments 9; 1000");
        faulty(1, TWO + "^@ now 2;");
        faulty(3, TWO + "now ^2; @");
        faulty(2, TWO + "likes: ^; now 2;");
        faulty(4, bits(12) + "^bit 9 to 9;");
        faulty(3, bits(12) + "now ^3;bit 0 to 1;");
        faulty(3, bits(11) + "bit ^3 to 1;bit 0 to 1;");
        faulty(4, TWO + "likes:((((((^( 1000;");
    }

    static void ofOneTokenTheLeastKind() {
        sentence("Terms", "of one TOKEN the least kind:");
        faulty(1, "^1000");
        faulty(1, TWO + "bit 0 ^9999 to 1;");
        faulty(1, TWO + "bit ^9999 to 1;");
        faulty(2, TWO + "bit 0 ^999 to 1;");
        faulty(3, TWO + "bit ^999 to 1;");
        faulty(2, bits(12) + "farm 0 ^bit 0 to 1;");
        faulty(2, bits(12) + "now 1 ^bit 0 to 1;");
        faulty(2, TWO + "likes:((((((1^(;");
        faulty(2, TWO + "tells:not not not not not not 1=^not 1=1;");
        faulty(2, TWO + "tells:[[[[[[1=1 ^[;");
        faulty(1, TWO + "likes:((((((^@;");
    }

    static void noTokenBeginsSo() {
        sentence("Terms", "1 no TOKEN begins so (4 digits and more: at their first).");
        faulty(1, "^?");
        faulty(1, "farms 2 moments 2 ^, now 1;");
        faulty(1, TWO + "now 1 ^. ;");
        faulty(1, "farms ^0002 moments 2;");
        faulty(1, "farms ^00000000000000000002 moments 2;");
        faulty(1, "farms ^9999999999 moments 2;");
        fine("farms 002 moments 2;", 1);
        faulty(3, "farms ^999 moments 2;");
    }

    static void itCannotStandThere() {
        sentence("Terms", "2 it can't stand there");
        for (String word : new String[] {"moments", "to", "must", "wish", "mood", "at", "or", "and", "not", "from", "teller", "far", "moment",
            "bits", "farmer", "unknown", "7", ";", ":", "[", "("}) {
            faulty(2, TWO + "^" + word + " 0;");
        }
        fine(TWO + "bit 0 to 0;farm 0;cut 0;snow 0 at 0;tells:0=0;hears:0=0;likes:0;now 0;", 9);
    }

    static void atTheEnd() {
        sentence("Terms", "(the end: the text's length;");
        faulty(2, "^");
        faulty(2, " \n ^");
        faulty(2, "farms 2 moments 2^");
        faulty(2, "farms 2 moments 2   ^");
        faulty(2, TWO + "now 1\n^");
        faulty(2, TWO + "likes:((1)^");
        faulty(2, TWO + "tells:not ^");
        String long899 = TWO + " ".repeat(875) + "now 1";
        faultyAt(2, 898, long899);
        faultyAt(2, 900, long899 + "  ");
        fine(long899 + "; ", 2);
        String middle = TWO + " ".repeat(880);
        faulty(2, middle + "^no");
        faulty(2, middle + "^fa");
        faulty(2, TWO + " ".repeat(879) + "now^");
        faulty(2, middle.replaceFirst("2;", "2 ") + "^12");
        PartyLine x = new PartyLine();
        Check.feed(x, TWO + "now 1;");
        due("line(23) of 24 bytes", x.line(23), -32);
        due("the text's length, not the tape's", x.fault(1), 23);
    }

    static void farmsFirstAndOnce() {
        sentence("Terms", "farms must be told first, and once;");
        fine(TWO, 1);
        faulty(2, "^now 1;" + TWO);
        faulty(2, "^;" + TWO);
        faulty(2, "^moments 2 farms 2;");
        faulty(2, "^farm 2 moments 2;");
        faulty(2, "^bit 0 to 1;");
        faulty(2, TWO + "^farms 2 moments 2;");
        faulty(2, TWO + "now 1;^farms 3 moments 3;");
        faulty(2, TWO + "^moments 2;");
    }

    static void wordsOfAnotherLaw() {
        sentence("Terms", "a word of another law).");
        for (String word : new String[] {"teller", "far", "moment"}) {
            faulty(2, TWO + "tells:^" + word + "=1;");
            faulty(2, TWO + "tells:1=1 and (1+^" + word + ")=1;");
        }
        for (String word : new String[] {"bit", "from", "to", "moment"}) {
            faulty(2, TWO + "hears:^" + word + "=1;");
            faulty(2, TWO + "hears:1=1 or [1<2*^" + word + "];");
        }
        for (String word : new String[] {"bit", "from", "to", "teller", "far"}) {
            faulty(2, TWO + "likes:^" + word + ";");
            faulty(2, TWO + "likes:1-(^" + word + ");");
        }
        fine(TWO + "tells:bit=from*to;hears:teller=far;likes:moment;", 4);
    }

    static void outOfItsBounds() {
        sentence("Terms", "3 an N out of its bounds (WIRES: one less than FARMS).");
        fine(TWO + "cut 0;snow 1 at 0;", 3);
        faulty(3, TWO + "cut ^1;");
        faulty(3, TWO + "snow 1 at ^1;");
        fine("farms 8 moments 2;cut 6;snow 1 at 6;farm 7;", 4);
        faulty(3, "farms 8 moments 2;cut ^7;");
        faulty(3, "farms 8 moments 2;snow 1 at ^7;");
        faulty(3, "farms 8 moments 2;farm ^8;");
        due("no bounds in laws", fine(TWO + "likes:999;", 2).likes(0, 0), 999);
    }

    static void aThirteenthBit() {
        sentence("Terms", "4 the first TOKEN of a 13th bit;");
        fine(bits(12) + "now 1;", 14);
        faulty(4, bits(12) + "^bit 0 to 1;");
        faulty(4, bits(12) + "^bit");
        faulty(4, bits(12) + "^bit bit");
        faulty(4, bits(12) + "now 1;\n ^bit 0 to 1;");
        faulty(2, bits(12) + "^bits 0 to 1;");
        faulty(2, bits(12) + "now ^bit 0 to 1;");
    }

    static void aSeventhOpening() {
        sentence("Terms", "a seventh of not [ (.");
        fine(TWO + "tells:[not[not[(1)=1]]];", 2);
        faulty(4, TWO + "tells:[not[not[(^(1))=1]]];");
        faulty(4, TWO + "tells:[not[not[not ^not 1=1]]];");
        faulty(4, TWO + "tells:[not[not[not ^[1=1]]]];");
        faulty(4, TWO + "tells:[not[not[not ^(1)=1]]];");
        faulty(4, TWO + "hears:[not[not[not 1+1*^(1)=1]]];");
        faulty(4, TWO + "likes:1+(1+(1+(1+(1+(1+(1+^(");
    }
}
