/** The boundary cases of promises 17 to 21: who hears whom. */
public final class HearingEdgesTest extends Edges {
    private HearingEdgesTest() {
    }

    public static void main(String[] args) throws Exception {
        runAll(HearingEdgesTest.class);
    }

    static void whoHearsAFarm() {
        sentence("Promise 17", "Who HEARS a FARM, as bits.");
        int[] due = {2, 1, 0};
        for (int farm = 0; farm < 3; farm++) {
            int f = farm;
            unchanged("heardBy(" + f + ")", x -> x.heardBy(f), due[f]);
        }
        PartyLine x = fine("farms 8 moments 2;hears:teller>farm;", 2);
        due("nobody", x.heardBy(0), 0);
        due("all others", x.heardBy(7), 127);
        due("whom it hears is another matter", x.farm(7, 4), 0);
        due("some", x.heardBy(3), 7);
    }

    static void heardByRefuses() {
        sentence("Promise 17", "-2.");
        refused("heardBy(3)", x -> x.heardBy(3), -2);
        for (int wrong : WRONG) {
            refused("heardBy(" + wrong + ")", x -> x.heardBy(wrong), -2);
        }
        due("heardBy(2)", Scene.lived().heardBy(2), 0);
        due("heardBy(8) of eight", fine("farms 8 moments 2;", 1).heardBy(8), -2);
    }

    static void theBestEar() {
        sentence("Promise 18", "The FARM that HEARS most others, the first.");
        unchanged("ear()", x -> x.ear(), 0);
        due("all hear all: the first", fine("farms 8 moments 2;", 1).ear(), 0);
        due("none hears: the first", fine("farms 8 moments 2;hears:1=2;", 2).ear(), 0);
        due("the last alone", fine("farms 8 moments 2;hears:farm=7;", 2).ear(), 7);
        due("two alike: the first of them", fine("farms 8 moments 2;hears:farm=3 or farm=5;", 2).ear(), 3);
        due("one more than the first", fine("farms 4 moments 2;hears:far=1;", 2).ear(), 1);
        due("hears, not is heard", fine("farms 4 moments 2;hears:teller=2 or farm=3 and teller=0;", 2).ear(), 3);
    }

    static void wiresThatItNeeds() {
        sentence("Promise 19", "WIRES each of which, CUT, would leave a FARM not HEARING another one that it HEARS now, as bits "
            + "(0, if it doesn't now).");
        PartyLine x = fine("farms 8 moments 2;", 1);
        due("all", x.needs(0, 7), 127);
        due("all, from the other end", x.needs(7, 0), 127);
        due("one", x.needs(3, 4), 8);
        due("the same one", x.needs(4, 3), 8);
        due("the last one", x.needs(6, 7), 64);
        due("in the middle", x.needs(5, 2), 28);
        x.cut(3);
        due("it doesn't now: between", x.needs(0, 7), 0);
        due("it doesn't now: at one end", x.needs(3, 4), 0);
        due("it does: beside", x.needs(0, 3), 7);
        due("it does: beside", x.needs(4, 7), 112);
        x = fine("farms 3 moments 2;hears:farm<teller;", 2);
        due("the law lets it", x.needs(0, 2), 3);
        due("the law doesn't", x.needs(2, 0), 0);
        unchanged("needs(0, 1)", y -> y.needs(0, 1), 1);
        unchanged("needs(0, 2)", y -> y.needs(0, 2), 0);
    }

    static void needsRefuses() {
        sentence("Promise 19", "-2: FARMS, both one.");
        refused("needs(0, 3)", x -> x.needs(0, 3), -2);
        refused("needs(3, 0)", x -> x.needs(3, 0), -2);
        for (int f = 0; f < 4; f++) {
            int g = f;
            refused("both " + g, x -> x.needs(g, g), -2);
        }
        for (int wrong : WRONG) {
            refused("needs(0, " + wrong + ")", x -> x.needs(0, wrong), -2);
            refused("needs(" + wrong + ", 0)", x -> x.needs(wrong, 0), -2);
        }
        due("needs(2, 0)", Scene.lived().needs(2, 0), 0);
    }

    static void piecesOfTheWire() {
        sentence("Promise 20", "Into how many pieces the wire falls.");
        unchanged("pieces()", x -> x.pieces(), 2);
        PartyLine x = fine("farms 8 moments 2;hears:1=2;", 2);
        due("whole, whoever hears", x.pieces(), 1);
        for (int k = 0; k < 7; k++) {
            x.cut(k);
            due("cut up to " + k, x.pieces(), k + 2);
        }
        due("two farms", new PartyLine().pieces(), 1);
        due("two pieces of them", fine("farms 2 moments 2;cut 0;", 2).pieces(), 2);
    }

    static void theFewestListeners() {
        sentence("Promise 21", "The fewest FARMS so that each one is one of these, or one of these HEARS it,");
        unchanged("listeners()", x -> x.listeners(), 5);
        due("one hears all", fine("farms 8 moments 2;", 1).listeners(), 1);
        due("none hears: all", fine("farms 8 moments 2;hears:1=2;", 2).listeners(), 255);
        due("none of two hears: both", fine("farms 2 moments 2;hears:1=2;", 2).listeners(), 3);
        due("the last alone hears: it", fine("farms 8 moments 2;hears:farm=7;", 2).listeners(), 128);
        due("one is heard by all: all others", fine("farms 8 moments 2;hears:teller=7;", 2).listeners(), 127);
        due("neighbours", fine("farms 6 moments 2;hears:far=1;", 2).listeners(), 18);
        due("as pieces are", fine("farms 8 moments 2;cut 3;cut 5;", 3).listeners(), 1 + 16 + 64);
    }

    static void theLeastOfLikeSets() {
        sentence("Promise 21", "of like ones the least set, as bits.");
        due("either one of two", fine("farms 2 moments 2;", 1).listeners(), 1);
        due("farms 0 and 2 of four neighbours", fine("farms 4 moments 2;hears:far=1;", 2).listeners(), 5);
        due("6 is less than 9", fine("farms 4 moments 2;hears:farm=0 and teller=1 or farm=3 and teller=2 or farm=1 and teller=3"
            + " or farm=2 and teller=0;", 2).listeners(), 6);
        due("the second, as the first doesn't hear", fine("farms 3 moments 2;hears:farm>0;", 2).listeners(), 2);
    }
}
