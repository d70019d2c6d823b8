/** The boundary cases of promises 9 to 16: deeds, deeds undone, deeds in trays, winters. */
public final class DeedEdgesTest extends Edges {
    private DeedEdgesTest() {
    }

    public static void main(String[] args) throws Exception {
        runAll(DeedEdgesTest.class);
    }

    static void howManyHear() {
        sentence("Promise 9", "To TELL: how many HEAR it.");
        PartyLine x = fine("farms 8 moments 3;bit 0 to 1;bit 1 to 2;", 3);
        due("all others", x.tell(7, 0), 7);
        due("its moment", x.farm(7, 0), 1);
        due("another one's", x.farm(0, 0), 1);
        for (int k = 0; k < 7; k++) {
            x.cut(k);
        }
        due("none", x.tell(7, 1), 0);
        due("its moment", x.farm(7, 0), 2);
        due("another one's", x.farm(0, 0), 1);
        due("bits told", x.count(6), 2);
        due("both can be undone", x.count(8), 9);
    }

    static void whyItCannotTell() {
        sentence("Promise 9", "-11 to -13.");
        refused("tell(3, 3): no such farm", x -> x.tell(3, 3), -11);
        refused("tell(0, 5): no such bit", x -> x.tell(0, 5), -11);
        refused("tell(0, 203): no deed of a tray", x -> x.tell(0, 203), -11);
        for (int wrong : WRONG) {
            refused("tell(" + wrong + ", 3)", x -> x.tell(wrong, 3), -11);
            refused("tell(0, " + wrong + ")", x -> x.tell(0, wrong), -11);
        }
        refused("tell(0, 2): another moment", x -> x.tell(0, 2), -12);
        refused("tell(2, 3): it was there before", x -> x.tell(2, 3), -12);
        refused("tell(1, 3): it may not", x -> x.tell(1, 3), -13);
        due("tell(0, 3)", Scene.lived().tell(0, 3), 1);
        due("tell(0, 0) without bits", new PartyLine().tell(0, 0), -11);
    }

    static void cutOrWhole() {
        sentence("Promise 10", "A WIRE is CUT, or whole again: 1 if CUT then, else 0.");
        PartyLine x = fine("farms 8 moments 2;cut 6;", 2);
        due("cut(0)", x.cut(0), 1);
        due("cut(6)", x.cut(6), 0);
        due("cut wires", x.count(4), 1);
        due("cut(0)", x.cut(0), 0);
        due("cut(6)", x.cut(6), 1);
        due("cut wires", x.count(4), 64);
    }

    static void noSuchWireToCut() {
        sentence("Promise 10", "-11.");
        refused("cut(2): one less than farms", x -> x.cut(2), -11);
        refused("cut(32)", x -> x.cut(32), -11);
        refused("cut(1000)", x -> x.cut(1000), -11);
        for (int wrong : WRONG) {
            refused("cut(" + wrong + ")", x -> x.cut(wrong), -11);
        }
        due("cut(1)", Scene.lived().cut(1), 0);
        due("cut(0)", Scene.lived().cut(0), 1);
        due("cut(7) of eight farms", fine("farms 8 moments 2;", 1).cut(7), -11);
    }

    static void aMood() {
        sentence("Promise 11", "A FARM has a MOOD (0 to 9): what it was.");
        PartyLine x = Scene.lived();
        due("mood(1, 9)", x.mood(1, 9), 4);
        due("its mood", x.farm(1, 2), 9);
        due("mood(1, 0)", x.mood(1, 0), 9);
        due("its mood", x.farm(1, 2), 0);
        due("mood(1, 0) again", x.mood(1, 0), 0);
        due("mood(2, 1): the last farm", x.mood(2, 1), 0);
        due("nobody else's", x.farm(0, 2), 3);
        due("all four can be undone", x.count(8), 10);
    }

    static void noSuchMood() {
        sentence("Promise 11", "-11 (the MOOD, too).");
        refused("mood(0, 10)", x -> x.mood(0, 10), -11);
        refused("mood(3, 0)", x -> x.mood(3, 0), -11);
        for (int wrong : WRONG) {
            refused("mood(0, " + wrong + ")", x -> x.mood(0, wrong), -11);
            refused("mood(" + wrong + ", 0)", x -> x.mood(wrong, 0), -11);
        }
        due("mood(0, 9)", Scene.lived().mood(0, 9), 3);
        due("mood(0, 0)", Scene.lived().mood(0, 0), 3);
    }

    static void oneTo99Turns() {
        sentence("Promise 12", "n TURNS (1 to 99): how many BITS were told in these.");
        PartyLine x = fine("farms 2 moments 2;bit 0 to 1;bit 1 to 0;tells:farm=0 or mood=5;", 4);
        due("go(1)", x.go(1), 1);
        due("the turn", x.count(5), 1);
        due("go(1): silent", x.go(1), 0);
        due("go(99)", x.go(99), 50);
        due("the turn", x.count(5), 1);
        due("go(98)", x.go(98), 49);
        due("bits told in all", x.count(6), 100);
        x.mood(1, 5);
        due("go(99)", x.go(99), 99);
        due("five calls of go(), one of mood()", x.count(8), 6);
    }

    static void notSoManyTurns() {
        sentence("Promise 12", "-3.");
        refused("go(0)", x -> x.go(0), -3);
        refused("go(100)", x -> x.go(100), -3);
        for (int wrong : WRONG) {
            refused("go(" + wrong + ")", x -> x.go(wrong), -3);
        }
        due("go(1)", Scene.lived().go(1), 0);
        due("go(99)", Scene.lived().go(99), 1);
    }

    private static PartyLine moods(int calls) {
        PartyLine x = fine("farms 2 moments 2;", 1);
        for (int i = 1; i <= calls; i++) {
            x.mood(0, i % 10);
        }
        return x;
    }

    static void oneToTenCalls() {
        sentence("Promise 13", "n calls (1 to 10) are UNDONE: how many still can be.");
        PartyLine x = moods(10);
        due("undo(1)", x.undo(1), 9);
        due("the mood then", x.farm(0, 2), 9);
        due("undo(8)", x.undo(8), 1);
        due("the mood then", x.farm(0, 2), 1);
        due("undo(1)", x.undo(1), 0);
        due("the mood then", x.farm(0, 2), 0);
        x = moods(10);
        due("undo(10)", x.undo(10), 0);
        due("the mood then", x.farm(0, 2), 0);
        due("what was undone is gone", x.undo(1), -3);
        x = moods(3);
        x.undo(2);
        x.mood(0, 7);
        due("undo(1) of a newer one", x.undo(1), 1);
        due("the mood then", x.farm(0, 2), 1);
    }

    static void notSoManyCalls() {
        sentence("Promise 13", "-3: n, more than can be.");
        refused("undo(0)", x -> x.undo(0), -3);
        for (int wrong : WRONG) {
            refused("undo(" + wrong + ")", x -> x.undo(wrong), -3);
        }
        refused("undo(7) of six", x -> x.undo(7), -3);
        due("undo(6) of six", Scene.lived().undo(6), 0);
        refusedIn(() -> moods(10), "undo(11) of ten", x -> x.undo(11), -3);
        due("undo(10) of ten", moods(10).undo(10), 0);
        refusedIn(() -> moods(9), "undo(10) of nine", x -> x.undo(10), -3);
        refusedIn(PartyLine::new, "undo(1) of none", x -> x.undo(1), -3);
    }

    private static PartyLine withDeeds(long... deeds) {
        PartyLine x = Scene.lived();
        Check.lay(x, 0, 1, deeds);
        return x;
    }

    private static void judged(PartyLine x, int place, int why, int moments, int doubts) {
        due("judge(0, 0)", x.judge(0, 0), place);
        due("judge(0, 1)", x.judge(0, 1), why);
        due("judge(0, 2)", x.judge(0, 2), moments);
        due("judge(0, 3)", x.judge(0, 3), doubts);
    }

    static void asIfDone() {
        sentence("Promise 14", "DEEDS, judged as if done,");
        unchanged("judge(0, 0)", x -> x.judge(0, 0), 4);
        unchanged("judge(0, 1)", x -> x.judge(0, 1), 1);
        unchanged("judge(0, 2)", x -> x.judge(0, 2), 1);
        unchanged("judge(0, 3)", x -> x.judge(0, 3), 2);
        unchanged("judge(2, 0)", x -> x.judge(2, 0), 0);
        PartyLine x = fine("farms 2 moments 3;bit 0 to 1;bit 1 to 2;", 3);
        Check.lay(x, 0, 1, 0, 1);
        judged(x, -1, 0, 1, 0);
        Check.lay(x, 0, 1, 1, 0);
        judged(x, 0, 2, 1, 0);
        Check.lay(x, 0, 1, 1000, 0, 1, 1000, 100);
        judged(x, -1, 0, 1, 1);
    }

    static void theFirstPlaceThatCannotBe() {
        sentence("Promise 14", "what 0: the first place that can't be (NONE), 1: why (0), 2: how many unlike MOMENTS are thought then, "
            + "3: all DOUBTS together.");
        judged(withDeeds(), -1, 0, 2, 2);
        judged(withDeeds(-1), -1, 0, 2, 2);
        judged(withDeeds(900), 0, 1, 2, 2);
        judged(withDeeds(900, 900, 0), 0, 1, 2, 2);
        judged(withDeeds(0), 0, 2, 2, 2);
        judged(withDeeds(103), 0, 3, 2, 2);
        judged(withDeeds(3, 103), 1, 2, 1, 2);
        judged(withDeeds(1000, 3, 103, 900), 2, 3, 2, 2);
        judged(withDeeds(1001, 3), -1, 0, 1, 2);
        judged(withDeeds(2017, 2027, 1001, 3, 900), 4, 1, 1, 3);
        long[] forty = times(40, 2005);
        judged(withDeeds(forty), -1, 0, 2, 2);
        forty[39] = 1002;
        judged(withDeeds(forty), 39, 1, 2, 2);
    }

    static void judgeRefuses() {
        sentence("Promise 14", "-2: the TRAY, what; -6.");
        for (int wrong : WRONG) {
            refused("judge(" + wrong + ", 0)", x -> x.judge(wrong, 0), -2);
            refused("judge(0, " + wrong + ")", x -> x.judge(0, wrong), -2);
        }
        refused("judge(4, 0)", x -> x.judge(4, 0), -2);
        refused("judge(0, 4)", x -> x.judge(0, 4), -2);
        refused("judge(3, 4): -2 ahead of -6", x -> x.judge(3, 4), -2);
        refused("judge(3, 3): it is missing", x -> x.judge(3, 3), -6);
        due("judge(2, 3)", Scene.lived().judge(2, 3), 2);
        PartyLine x = Scene.lived();
        x.numbers(3, 0, 0);
        due("judge(3, 0): it is there", x.judge(3, 0), -1);
    }

    static void tillOneCannotBe() {
        sentence("Promise 15", "They are done, till one can't be: how many.");
        PartyLine x = Scene.lived();
        due("four of five", x.perform(0), 4);
        due("as one call", x.count(8), 7);
        due("the turn", x.count(5), 2);
        due("farm 0 told bit 3", x.farm(0, 0), 3);
        due("wire 1 is whole", x.count(4), 0);
        due("farm 0's mood", x.farm(0, 2), 5);
        due("undo(1)", x.undo(1), 6);
        due("as a whole", x.farm(0, 2), 3);
        due("all of three", withDeeds(-1, -1, -1).perform(0), 3);
        x = withDeeds(900, 2009);
        due("none: the first can't be", x.perform(0), 0);
        due("what is behind it isn't done", x.farm(0, 2), 3);
        due("nothing to be undone", x.count(8), 6);
        x = withDeeds();
        due("none: no deeds", x.perform(0), 0);
        due("nothing to be undone", x.count(8), 6);
        long[] forty = times(40, 1000);
        x = withDeeds(forty);
        due("all of forty", x.perform(0), 40);
        due("whole again", x.count(4), 2);
        forty[39] = 1002;
        x = withDeeds(forty);
        due("39 of forty", x.perform(0), 39);
        due("cut", x.count(4), 3);
    }

    static void performRefuses() {
        sentence("Promise 15", "-2; -6.");
        for (int wrong : WRONG) {
            refused("perform(" + wrong + ")", x -> x.perform(wrong), -2);
        }
        refused("perform(4)", x -> x.perform(4), -2);
        refused("perform(3): it is missing", x -> x.perform(3), -6);
        PartyLine x = Scene.lived();
        x.numbers(3, 0, 1);
        due("perform(3): it is there, but its deed can't be", x.perform(3), 0);
    }

    /** The draw once more: x is held in 32 bits. */
    private static int draw(int[] x, int bound) {
        x[0] = x[0] * 1103515245 + 12345;
        return (x[0] >>> 16) % bound;
    }

    /** Of a winter on a new object, which has two farms, one wire and no bits, how many deeds can be. */
    private static int possible(int seed, int times) {
        int[] x = {seed};
        int could = 0;
        for (int i = 0; i < times; i++) {
            int sort = draw(x, 5);
            int which = sort > 1 ? draw(x, 8) : 0;
            if (sort == 2 || sort == 4) {
                draw(x, 10);
            }
            could += sort < 2 || sort == 3 && which == 0 || sort == 4 && which < 2 ? 1 : 0;
        }
        return could;
    }

    static void howManyCouldBe() {
        sentence("Promise 16", "A WINTER: how many could be.");
        int none = 0;
        for (int seed = -40; seed < 40; seed++) {
            PartyLine x = new PartyLine();
            due("winter(" + seed + ", 40)", x.winter(seed, 40), possible(seed, 40));
            due("one call", x.count(8), 1);
            x = new PartyLine();
            int could = x.winter(seed, 1);
            due("winter(" + seed + ", 1)", could, possible(seed, 1));
            due("a call that did none can't be undone", x.count(8), could);
            if (could == 0 && none < 5) {
                none++;
                int s = seed;
                refusedIn(PartyLine::new, "a winter of none", y -> y.winter(s, 1), 0);
            }
        }
        due("winters of none", none, 5);
        PartyLine x = Scene.lived();
        Check.holds("a winter in the middle of a life does some", x.winter(3, 40) > 8);
        due("it is one call", x.count(8), 7);
        due("undo(1)", x.undo(1), 6);
        Check.holds("undone as a whole", Scene.all(x).equals(Scene.all(Scene.lived())));
    }

    static void notSoManyTimes() {
        sentence("Promise 16", "-3: how many times.");
        refused("winter(5, 0)", x -> x.winter(5, 0), -3);
        refused("winter(5, 41)", x -> x.winter(5, 41), -3);
        for (int wrong : WRONG) {
            refused("winter(5, " + wrong + ")", x -> x.winter(5, wrong), -3);
            due("winter(" + wrong + ", 1): any seed", new PartyLine().winter(wrong, 1), possible(wrong, 1));
        }
        due("winter(5, 1)", new PartyLine().winter(5, 1), possible(5, 1));
        due("winter(5, 40)", new PartyLine().winter(5, 40), possible(5, 40));
    }
}
