/** The boundary cases of promises 36 to 39: which bits were told by what was heard, who told them. */
public final class RowEdgesTest extends Edges {
    private static final String LOOPS = "farms 8 moments 2;" + "bit 0 to 0;".repeat(12);

    private RowEdgesTest() {
    }

    public static void main(String[] args) throws Exception {
        runAll(RowEdgesTest.class);
    }

    static void howManyRows() {
        sentence("Promise 36", "SEEN: how many rows.");
        unchanged("rows(1, 0)", x -> x.rows(1, 0), 1);
        unchanged("rows(1, 3): none", x -> x.rows(1, 3), 0);
        PartyLine x = fine(LOOPS, 13);
        long many = 1;
        for (int n = 1; n <= 12; n++) {
            many *= 12;
            Check.lay(x, 0, 0, times(n, -1));
            due("so many not heard: " + n, x.rows(0, 0), many);
        }
        due("from elsewhere none", x.rows(0, 1), 0);
        Check.lay(x, 0, 0, -1, 0, 1);
        due("a moment that can't be reached", x.rows(0, 0), 0);
        due("without bits", withoutBits(-1).rows(0, 0), 0);
    }

    private static PartyLine withoutBits(long... numbers) {
        PartyLine x = new PartyLine();
        Check.lay(x, 0, 0, numbers);
        return x;
    }

    static void rowsRefuses() {
        sentence("Promise 36", "-2: the TRAY, the MOMENT; -6; -4: not 1 to 12 numbers; -3: one is no MOMENT, nor NONE.");
        refused("rows(4, 0)", x -> x.rows(4, 0), -2);
        refused("rows(1, 4)", x -> x.rows(1, 4), -2);
        for (int wrong : WRONG) {
            refused("rows(" + wrong + ", 0)", x -> x.rows(wrong, 0), -2);
            refused("rows(1, " + wrong + ")", x -> x.rows(1, wrong), -2);
        }
        refused("rows(3, 4): -2 ahead of -6", x -> x.rows(3, 4), -2);
        refused("rows(3, 0): it is missing", x -> x.rows(3, 0), -6);
        refusedIn(withTray(), "no numbers", x -> x.rows(1, 0), -4);
        due("one number", withTray(-1).get().rows(1, 0), 2);
        due("twelve numbers", withTray(times(12, -1)).get().rows(1, 0), 3);
        refusedIn(withTray(times(13, -1)), "thirteen numbers", x -> x.rows(1, 0), -4);
        refusedIn(withTray(times(40, -1)), "forty numbers", x -> x.rows(1, 0), -4);
        refusedIn(withTray(times(13, 4)), "-4 ahead of -3", x -> x.rows(1, 0), -4);
        due("the last moment", withTray(-1, 3).get().rows(1, 0), 1);
        for (long wrong : new long[] {4, -2, 4294967295L, 4294967296L, Long.MAX_VALUE, Long.MIN_VALUE}) {
            refusedIn(withTray(wrong), "no moment, nor NONE: " + wrong, x -> x.rows(1, 0), -3);
            refusedIn(withTray(-1, 2, wrong), "at the end: " + wrong, x -> x.rows(1, 0), -3);
        }
        refusedIn(withTray(4, 0), "-3, though no row could be", x -> x.rows(1, 3), -3);
    }

    static void theSureBit() {
        sentence("Promise 37", "The BIT that is at a place in all of these rows (NONE: there is none such, no rows).");
        int[] due = {0, 1, 3};
        for (int place = 0; place < 3; place++) {
            int p = place;
            unchanged("sureBit(1, 0, " + p + ")", x -> x.sureBit(1, 0, p), due[p]);
            unchanged("sureBit(1, 3, " + p + "): no rows", x -> x.sureBit(1, 3, p), -1);
        }
        PartyLine x = fine("farms 2 moments 4;bit 0 to 1;bit 0 to 1;bit 1 to 2;bit 2 to 3;bit 2 to 2;tells:not bit=1 or mood=1;", 7);
        Check.lay(x, 0, 1, -1, -1, -1, 3);
        due("bit 1 nobody may tell: sure", x.sureBit(0, 0, 0), 0);
        due("sure", x.sureBit(0, 0, 1), 2);
        due("sure: it must wait", x.sureBit(0, 0, 2), 4);
        due("sure", x.sureBit(0, 0, 3), 3);
        x.mood(0, 1);
        due("two such: none is sure", x.sureBit(0, 0, 0), -1);
        due("still sure", x.sureBit(0, 0, 1), 2);
        Check.lay(x, 0, 1, -1, -1, -1);
        due("what comes behind isn't sure", x.sureBit(0, 0, 2), -1);
        Check.lay(x, 0, 1, 1, 2, -1, 2);
        due("what is heard later makes it sure", x.sureBit(0, 0, 2), 4);
        x = fine("farms 2 moments 4;bit 0 to 1;bit 0 to 2;bit 1 to 3;bit 2 to 0;bit 0 to 0;", 6);
        Check.lay(x, 0, 1, -1, 3);
        due("only over 1 does it go on to 3", x.sureBit(0, 0, 0), 0);
        Check.lay(x, 0, 1, 2, -1, 1);
        due("sure", x.sureBit(0, 0, 1), 3);
        Check.lay(x, 0, 1, -1, 0, 1);
        due("over 2 or 0", x.sureBit(0, 0, 0), -1);
        due("bit 0 at last", x.sureBit(0, 0, 2), 0);
        Check.lay(x, 0, 1, -1, -1, 3);
        due("to 3 over 1, to 1 from 0", x.sureBit(0, 0, 0), 4);
        Check.lay(x, 0, 1, -1, -1, 1, 3);
        due("bit 2 at last", x.sureBit(0, 0, 3), 2);
        due("over 2 or 0", x.sureBit(0, 0, 1), -1);
        due("not over 1, which leads to 3 alone", x.sureBit(0, 2, 0), 3);
        x = fine(LOOPS.replaceFirst("bit 0 to 0;", ""), 12);
        Check.lay(x, 0, 0, times(12, -1));
        due("eleven such at the last place", x.sureBit(0, 0, 11), -1);
        x = fine("farms 2 moments 3;" + "bit 1 to 1;".repeat(11) + "bit 0 to 0;", 13);
        Check.lay(x, 0, 0, times(12, -1));
        due("bit 11 at the last place", x.sureBit(0, 0, 11), 11);
    }

    static void sureBitRefuses() {
        sentence("Promise 37", "-2, -6, -4, -3 as rows(); -7: no such place.");
        refused("sureBit(4, 0, 0)", x -> x.sureBit(4, 0, 0), -2);
        refused("sureBit(1, 4, 0)", x -> x.sureBit(1, 4, 0), -2);
        for (int wrong : WRONG) {
            refused("sureBit(" + wrong + ", 0, 0)", x -> x.sureBit(wrong, 0, 0), -2);
            refused("sureBit(1, " + wrong + ", 0)", x -> x.sureBit(1, wrong, 0), -2);
            refused("sureBit(1, 0, " + wrong + ")", x -> x.sureBit(1, 0, wrong), -7);
        }
        refused("sureBit(3, 4, 9): -2 ahead of -6", x -> x.sureBit(3, 4, 9), -2);
        refused("sureBit(3, 0, 9): -6 ahead of -7", x -> x.sureBit(3, 0, 9), -6);
        refusedIn(withTray(), "no numbers: -4 ahead of -7", x -> x.sureBit(1, 0, 0), -4);
        refusedIn(withTray(times(13, -1)), "thirteen", x -> x.sureBit(1, 0, 0), -4);
        due("twelve", withTray(times(12, -1)).get().sureBit(1, 0, 11), -1);
        refusedIn(withTray(-1, 4), "no moment: -3 ahead of -7", x -> x.sureBit(1, 0, 2), -3);
        refusedIn(withTray(-1, -2), "nor NONE", x -> x.sureBit(1, 0, 0), -3);
        refused("sureBit(1, 0, 3): of three", x -> x.sureBit(1, 0, 3), -7);
        refused("sureBit(1, 3, 3): -7 ahead of NONE", x -> x.sureBit(1, 3, 3), -7);
        due("sureBit(1, 0, 2)", Scene.lived().sureBit(1, 0, 2), 3);
    }

    static void howManyRowsOfFarms() {
        sentence("Promise 38", "TOLD: how many rows of FARMS.");
        unchanged("tellers(2)", x -> x.tellers(2), 8);
        PartyLine x = fine(LOOPS, 13);
        long many = 8;
        for (int n = 1; n <= 12; n++) {
            Check.lay(x, 0, 0, times(n, 11));
            due("so many bits: " + n, x.tellers(0), many);
            many *= 7;
        }
        x = fine("farms 2 moments 2;bit 0 to 0;bit 0 to 0;tells:farm=bit;", 4);
        Check.lay(x, 0, 0, 0, 1, 0);
        due("one row", x.tellers(0), 1);
        Check.lay(x, 0, 0, 0, 0);
        due("none two bits one behind the other", x.tellers(0), 0);
    }

    static void tellersRefuses() {
        sentence("Promise 38", "-2: the TRAY; -6; -4: not 1 to 12 numbers; -3: one is no BIT.");
        refused("tellers(4)", x -> x.tellers(4), -2);
        for (int wrong : WRONG) {
            refused("tellers(" + wrong + ")", x -> x.tellers(wrong), -2);
        }
        refused("tellers(3): it is missing", x -> x.tellers(3), -6);
        refusedIn(withTray(), "no numbers", x -> x.tellers(1), -4);
        due("one number", withTray(0).get().tellers(1), 3);
        due("twelve numbers", withTray(times(12, 0)).get().tellers(1), 3 * 2048);
        refusedIn(withTray(times(13, 0)), "thirteen numbers", x -> x.tellers(1), -4);
        refusedIn(withTray(times(13, 5)), "-4 ahead of -3", x -> x.tellers(1), -4);
        due("the last bit", withTray(4).get().tellers(1), 3);
        for (long wrong : new long[] {5, -1, -2, 4294967296L, Long.MAX_VALUE, Long.MIN_VALUE}) {
            refusedIn(withTray(wrong), "no bit: " + wrong, x -> x.tellers(1), -3);
            refusedIn(withTray(0, 1, wrong), "at the end: " + wrong, x -> x.tellers(1), -3);
        }
        refusedIn(() -> withoutBits(0), "there are no bits", x -> x.tellers(0), -3);
    }

    static void whoMayHaveTold() {
        sentence("Promise 39", "FARMS that may have told the BIT at a place in some such row, as bits.");
        int[] due = {7, 7, 5};
        for (int place = 0; place < 3; place++) {
            int p = place;
            unchanged("teller(2, " + p + ")", x -> x.teller(2, p), due[p]);
        }
        PartyLine x = fine("farms 3 moments 2;bit 0 to 0;bit 0 to 0;bit 0 to 0;tells:bit=0 and farm=1 or bit=1 or bit=2 and farm<2;", 5);
        Check.lay(x, 0, 0, 0, 1, 2);
        due("farm 1 alone", x.teller(0, 0), 2);
        due("not farm 1, which told the one ahead", x.teller(0, 1), 5);
        due("both, behind either", x.teller(0, 2), 3);
        Check.lay(x, 0, 0, 1, 0);
        due("not farm 1, which tells the one behind", x.teller(0, 0), 5);
        Check.lay(x, 0, 0, 1, 0, 0);
        due("no such row", x.teller(0, 0), 0);
        due("no such row", x.teller(0, 2), 0);
        Check.lay(x, 0, 0, 1);
        due("all three", x.teller(0, 0), 7);
        x = fine(LOOPS, 13);
        Check.lay(x, 0, 0, times(12, 3));
        due("the last place", x.teller(0, 11), 255);
    }

    static void tellerRefuses() {
        sentence("Promise 39", "As tellers(); -7: no such place.");
        refused("teller(4, 0)", x -> x.teller(4, 0), -2);
        for (int wrong : WRONG) {
            refused("teller(" + wrong + ", 0)", x -> x.teller(wrong, 0), -2);
            refused("teller(2, " + wrong + ")", x -> x.teller(2, wrong), -7);
        }
        refused("teller(3, 9): -6 ahead of -7", x -> x.teller(3, 9), -6);
        refusedIn(withTray(), "no numbers: -4 ahead of -7", x -> x.teller(1, 0), -4);
        refusedIn(withTray(times(13, 0)), "thirteen", x -> x.teller(1, 0), -4);
        due("twelve", withTray(times(12, 0)).get().teller(1, 11), 7);
        refusedIn(withTray(0, 5), "no bit: -3 ahead of -7", x -> x.teller(1, 2), -3);
        refusedIn(withTray(0, -1), "NONE is no bit", x -> x.teller(1, 0), -3);
        refused("teller(2, 3): of three", x -> x.teller(2, 3), -7);
        due("teller(2, 2)", Scene.lived().teller(2, 2), 5);
    }
}
