// Sentences of the document that meet in one run: the graph changed between transactions, values fired before and
// after the change, numbers used again, cells of cells, and runs as long as an object may be used.
public final class TogetherTests {
    // HOLD 0 is tied to an event that has, in each transaction after the first, one more than HOLD 0.
    private static final String CLOCK = "HOLD -1 0; CHANGE 0; DELAY 1; MAP 2 1 1; SOURCE; MERGE 3 4; tie 0 5; fire 4 1;"
        + "commit -> 3;";

    private static Runs runs;

    public static void main(String[] args) throws Exception {
        runs = new Runs();
        madeBetween();
        tiedBetween();
        retractedBetween();
        firedBeforeAndAfter();
        numbersAgain();
        cellsOfCells();
        eventsOfEvents();
        circles();
        refusedBetween();
        longRuns();
        runs.finish();
    }

    private static void madeBetween() {
        runs.together("nodes of many kinds are made after their event has had a value",
            "SOURCE; fire 0 5; commit -> 1; MAP 0 2 1; COUNT 0; ONCE 0; DELAY 0; HOLD 0 3; SNAP 0 5; CHANGE 5;"
            + Runs.each("times % -> 0; event % -> none", 1, 2, 3, 4, 6, 7)
            + "event 0 -> 5; commit -> 0; value 5 -> 3; fire 0 6; commit -> 6; event 1 -> 13; event 2 -> 6; event 3 -> 6;"
            + "event 4 -> none; value 5 -> 6; event 6 -> 9; event 7 -> 6; fire 0 7; commit -> 6; event 1 -> 15;"
            + "event 2 -> 13; event 3 -> none; event 4 -> 6; event 6 -> 13; event 7 -> 7; times 0 -> 3; times 1 -> 2");
        runs.together("the same kinds made at three times go on by themselves",
            "SOURCE; COUNT 0; ONCE 0; fire 0 1; commit -> 3; COUNT 0; ONCE 0; fire 0 2; commit -> 4; COUNT 0; ONCE 0;"
            + "fire 0 4; commit -> 5; event 1 -> 7; event 3 -> 6; event 5 -> 4; event 2 -> none; event 4 -> none;"
            + "event 6 -> 4; times 1 -> 3; times 3 -> 2; times 5 -> 1; times 2 -> 1; times 4 -> 1; times 6 -> 1");
        runs.together("cells made between take their values from the cells as they are then",
            "SOURCE; HOLD 0 1; fire 0 4; commit; TIMES 1 3 0; value 2 -> 12; fire 0 5; LIFT 1 2; value 3 -> 16; CHANGE 3;"
            + "SNAP 0 3; commit -> 3; value 2 -> 15; value 3 -> 20; event 4 -> 20; event 5 -> 21",
            "SOURCE; HOLD 0 0; fire 0 2; commit; GATE 0 1; SWITCH 1 0 2; fire 0 0; commit -> 3; event 2 -> 0; event 3 -> 0;"
            + "fire 0 7; commit -> 1");
        runs.together("a DELAY made between hears nothing of the transaction before, its own DELAY neither",
            "SOURCE; DELAY 0; fire 0 5; commit -> 1; DELAY 0; DELAY 1; fire 0 6; commit -> 2; event 1 -> 5; event 2 -> none;"
            + "event 3 -> none; commit -> 3; event 1 -> 6; event 2 -> 6; event 3 -> 5; commit -> 1; event 3 -> 6");
    }

    private static void tiedBetween() {
        runs.together("a HOLD is tied to later events, and a value waits while it is tied anew",
            "HOLD -1 1; TIMES 0 3 1; CHANGE 1; SOURCE; SOURCE; MERGE 3 4; tie 0 5; fire 3 2; fire 4 5; commit -> 4;"
            + "value 0 -> 7; value 1 -> 22; event 2 -> 22; fire 4 9; tie 0 3; commit -> 2; value 0 -> 7; event 2 -> none;"
            + "fire 3 7; fire 4 1; tie 0 5; commit -> 4; value 0 -> 8; value 1 -> 25; event 2 -> 25");
        runs.together("what the event had before the tie does not count",
            "SOURCE; HOLD -1 1; CHANGE 1; fire 0 6; commit -> 1; tie 1 0; value 1 -> 1; commit -> 0; value 1 -> 1;"
            + "fire 0 6; commit -> 2; value 1 -> 6; tie 1 -1; fire 0 8; commit -> 1; value 1 -> 6");
        runs.together("a tie to a DELAY brings the value of the transaction before the tie",
            "SOURCE; HOLD -1 1; DELAY 0; fire 0 6; commit -> 1; tie 1 2; commit -> 1; value 1 -> 6; fire 0 7; commit -> 1;"
            + "tie 1 0; commit -> 1; value 1 -> 6");
        runs.together("two HOLDs change their events over, one transaction after the other",
            "SOURCE; SOURCE; HOLD 0 1; HOLD 1 2; LIFT 2 3; CHANGE 4; fire 0 10; fire 1 20; commit -> 3; event 5 -> 30;"
            + "tie 2 1; tie 3 0; fire 0 10; fire 1 20; commit -> 2; event 5 -> none; value 2 -> 20; value 3 -> 10; fire 1 3;"
            + "commit -> 2; event 5 -> 13; tie 2 0; fire 0 5; commit -> 2; value 2 -> 5; value 3 -> 5; event 5 -> 10");
    }

    private static void retractedBetween() {
        runs.together("a HOLD's event is retracted, its number used again, and only a new tie counts",
            "HOLD -1 1; TIMES 0 3 1; CHANGE 1; SOURCE; tie 0 3; fire 3 8; commit -> 2; value 1 -> 25; fire 3 9;"
            + "retract -> 3; commit -> 0; value 0 -> 8; SOURCE -> 3; fire 3 4; commit -> 1; value 0 -> 8; tie 0 3;"
            + "commit -> 0; fire 3 4; commit -> 2; value 1 -> 13; event 2 -> 13; times 2 -> 2; times 3 -> 2");
        runs.together("what was fired stays where it was while later nodes go",
            "SOURCE; COUNT 0; HOLD 1 2; fire 0 5; retract -> 2; retract -> 1; COUNT 0; HOLD 1 3; commit -> 2; value 2 -> 5;"
            + "fire 0 6; retract -> 2; commit -> 2; event 1 -> 11; HOLD 1 4; value 2 -> 4; fire 0 1; commit; value 2 -> 12");
        runs.together("a refused tie is free when the path has been retracted, and the path is refused then",
            "HOLD -1; HOLD -1; CHANGE 0; CHANGE 1; tie 0 3; tie 1 2 -> false; retract -> 3; tie 1 2 -> true;"
            + "CHANGE 1 -> 3; tie 0 3 -> false; leads 3 0 -> true; SOURCE; tie 0 4; fire 4 6; commit -> 3; value 1 -> 6;"
            + "retract -> 4; commit -> 0; value 0 -> 6; value 1 -> 6");
        runs.together("all nodes go and the transactions stay",
            "SOURCE; HOLD 0 1; fire 0 5; commit -> 1; fire 0 6; retract -> 1; retract -> 0; retract -> BAD; commit -> 0;"
            + "transactions -> 2; HOLD -1 7 -> 0; SOURCE -> 1; tie 0 1; commit -> 0; value 0 -> 7; fire 1 8; commit -> 1;"
            + "value 0 -> 8; times 1 -> 1; times 0 -> 0; transactions -> 4");
    }

    private static void firedBeforeAndAfter() {
        runs.together("values are fired before one transaction and the other",
            "SOURCE; SOURCE; MERGE 0 1; COUNT 2; fire 0 1; fire 0 2; fire 1 10; commit -> 4; event 2 -> 12; fire 1 20;"
            + "event 1 -> 10; commit -> 3; event 0 -> none; event 2 -> 20; event 3 -> 32; commit -> 0; fire 0 -32;"
            + "commit -> 3; event 3 -> 0; times 3 -> 3");
        runs.together("a value is fired, the source is read by new nodes, and another value takes its place",
            "SOURCE; fire 0 5; MAP 0 2; commit -> 2; event 1 -> 10; fire 0 6; MAP 1 3; fire 0 7; commit -> 3; event 1 -> 14;"
            + "event 2 -> 42; COUNT 2; commit -> 0; event 3 -> none; fire 0 1; commit -> 4; event 3 -> 6");
        runs.together("the same number of a source, before and after it is made again",
            "SOURCE; SOURCE; fire 1 5; retract -> 1; SOURCE -> 1; commit -> 0; fire 1 6; commit -> 1; event 1 -> 6;"
            + "times 1 -> 1; fire 1 7; retract -> 1; fire 1 8 -> false; SOURCE -> 1; event 1 -> none; times 1 -> 0; commit -> 0");
    }

    private static void numbersAgain() {
        runs.together("one number for an event, a cell and an event again",
            "SOURCE; HOLD 0 3; fire 0 8; commit -> 1; retract -> 1; DELAY 0 -> 1; event 1 -> none; commit -> 0; fire 0 2;"
            + "commit -> 1; commit -> 1; event 1 -> 2; retract -> 1; HOLD 0 5 -> 1; value 1 -> 5; had 1 -> false; times 1 -> 0;"
            + "commit -> 0; value 1 -> 5; retract -> 1; ONCE 0 -> 1; fire 0 9; commit -> 2; event 1 -> 9; retract -> 1;"
            + "ONCE 0; fire 0 4; commit -> 2; event 1 -> 4; times 1 -> 1");
        runs.together("a DELAY, a SOURCE and a COUNT at one number leave one another nothing",
            "SOURCE; DELAY 0; fire 0 5; commit; retract -> 1; SOURCE -> 1; commit -> 0; fire 1 6; retract -> 1; DELAY 0 -> 1;"
            + "commit -> 0; retract -> 1; COUNT 0; fire 0 4; commit -> 2; event 1 -> 4; retract -> 1; SOURCE; COUNT 1 -> 2;"
            + "fire 1 3; commit -> 2; event 2 -> 3; retract -> 2; retract -> 1; COUNT 0; fire 0 1; commit; event 1 -> 1");
        runs.together("a HOLD made again has its own first value and its own event",
            "SOURCE; SOURCE; HOLD 0 1; fire 0 5; commit; value 2 -> 5; retract -> 2; HOLD 1 2; LIFT 2 2; value 3 -> 4; fire 0 6;"
            + "commit; value 2 -> 2; fire 1 7; commit; value 2 -> 7; value 3 -> 14; leads 2 0 -> false; leads 3 1 -> true");
    }

    private static void cellsOfCells() {
        String chain = "SOURCE; HOLD 0 1; TIMES 1 2 0; LIFT 1 2; SELECT 3 2 1; TIMES 4 -1 0; LIFT 5 4; CHANGE 6; CHANGE 5;";
        runs.together("cells over six steps follow in the same transaction",
            chain + "value 2 -> 2; value 3 -> 3; value 4 -> 2; value 5 -> -2; value 6 -> 0; fire 0 4; commit -> 2; value 2 -> 8;"
            + "value 3 -> 12; value 4 -> 8; value 5 -> -8; value 6 -> 0; event 7 -> none; event 8 -> -8; fire 0 0; commit -> 2;"
            + "value 4 -> 0; value 5 -> 0; event 7 -> none; event 8 -> 0; fire 0 0; commit -> 1; event 8 -> none");
        runs.together("a SELECT turns from one cell to another in the transaction in which that one changes too",
            "SOURCE; HOLD 0 0; TIMES 1 10 5; TIMES 1 100 7; SELECT 1 2 3; CHANGE 4; SNAP 0 4; value 4 -> 7; fire 0 2;"
            + "commit -> 3; value 4 -> 25; event 5 -> 25; event 6 -> 9; fire 0 0; commit -> 3; event 5 -> 7; event 6 -> 25");
        runs.together("a cell is read before, now and as a change in one transaction",
            "SOURCE; HOLD 0 3; LIFT 1 1; CHANGE 2; SNAP 3 2; GATE 3 1; HOLD 3 0; TIMES 6 1 1; fire 0 5; commit -> 4;"
            + "event 3 -> 10; event 4 -> 16; event 5 -> 10; value 6 -> 10; value 7 -> 11; fire 0 0; commit -> 4; event 4 -> 10;"
            + "event 5 -> 0; value 7 -> 1; fire 0 1; commit -> 3; event 5 -> none; event 4 -> 2");
        runs.together("a HOLD of the CHANGE of a HOLD follows at once, over ties that point forward too",
            "HOLD -1 0; HOLD -1 0; CHANGE 0; SOURCE; tie 1 2; tie 0 3; TIMES 1 1 1; CHANGE 4; fire 3 6; commit -> 3; value 1 -> 6;"
            + "event 5 -> 7; tie 1 -1; fire 3 8; commit -> 2; value 1 -> 6; tie 1 2; fire 3 8; commit -> 1; value 1 -> 6");
    }

    private static void eventsOfEvents() {
        runs.together("each kind of an event that is itself of an event",
            "SOURCE; MAP 0 2 0; HOLD -1 1; HOLD -1 0; MAP 1 1 1; FILTER 1 5; MERGE 1 4; SNAP 1 2; GATE 1 2; COUNT 1;"
            + "SWITCH 2 1 4; SWITCH 3 1 4; DELAY 1; ONCE 1; HOLD 1 0; fire 0 2; commit -> 10; event 4 -> 5; event 5 -> none;"
            + "event 6 -> 9; event 7 -> 5; event 8 -> 4; event 9 -> 4; event 10 -> 4; event 11 -> 5; event 12 -> none;"
            + "event 13 -> 4; value 14 -> 4; commit -> 1; event 12 -> 4; fire 0 3; commit -> 10; event 4 -> 7; event 5 -> 6;"
            + "event 6 -> 13; event 7 -> 7; event 8 -> 6; event 9 -> 10; event 10 -> 6; event 11 -> 7; event 12 -> none;"
            + "event 13 -> none; value 14 -> 6");
        runs.together("SWITCH, ONCE and COUNT on one another",
            "SOURCE; SOURCE; HOLD 1 1; SWITCH 2 0 1; ONCE 3; COUNT 3; fire 0 5; fire 1 0; commit -> 5; event 3 -> 5;"
            + "event 4 -> 5; event 5 -> 5; fire 0 6; fire 1 0; commit -> 4; event 3 -> 0; event 4 -> none; event 5 -> 5;"
            + "fire 0 7; commit -> 1; event 3 -> none; times 3 -> 2; times 4 -> 1; times 5 -> 2");
        runs.together("a DELAY of a COUNT of a FILTER, merged with what comes at once",
            "SOURCE; FILTER 0 3; COUNT 1; DELAY 2; MERGE 3 0; fire 0 2; commit -> 2; event 4 -> 2; fire 0 3; commit -> 4;"
            + "event 4 -> 3; fire 0 4; commit -> 5; event 3 -> 3; event 4 -> 7; commit -> 2; event 3 -> 7; event 4 -> 7; commit -> 0");
        runs.together("ONCE of a DELAY, DELAY of a ONCE",
            "SOURCE; DELAY 0; ONCE 1; ONCE 0; DELAY 3; fire 0 5; commit -> 2; event 3 -> 5; fire 0 6; commit -> 4; event 1 -> 5;"
            + "event 2 -> 5; event 4 -> 5; commit -> 1; event 1 -> 6; event 2 -> none; event 4 -> none");
    }

    private static void circles() {
        String sum = "SOURCE; HOLD -1 0; SNAP 0 1; tie 1 2; DELAY 2; COUNT 3;";
        runs.together("a HOLD that sums over its own SNAP",
            sum + "fire 0 1; commit -> 2; fire 0 1; commit -> 4; event 2 -> 2; event 3 -> 1; event 4 -> 1; fire 0 1; commit -> 4;"
            + "event 2 -> 3; event 4 -> 3; commit -> 2; event 3 -> 3; event 4 -> 6; value 1 -> 3; commit -> 0");
        runs.together("a HOLD that counts up over its own DELAY, until it is tied off",
            CLOCK + "commit -> 4;".repeat(10) + "value 0 -> 11; event 1 -> 11; tie 0 -1; commit -> 3; event 5 -> 12; value 0 -> 11;"
            + "commit -> 0; tie 0 5; commit -> 0; value 0 -> 11; fire 4 5; commit -> 3; commit -> 4; value 0 -> 6",
            CLOCK + "commit -> 4; retract -> 5; commit -> 2; event 3 -> 3; value 0 -> 2; commit -> 0; MERGE 3 4; tie 0 5;"
            + "fire 4 2; commit -> 2; fire 4 9; commit -> 3; commit -> 4; value 0 -> 10");
    }

    private static void refusedBetween() {
        String state = "SOURCE; HOLD 0 3; CHANGE 1; DELAY 2; COUNT 0; fire 0 5; commit -> 3; fire 0 6;";
        String refused = "node 15 -> BAD; MAP 1 1 -> BAD; LIFT 0 1 -> BAD; HOLD -2 0 -> BAD; tie 1 2 -> false; tie 0 2 -> false;"
            + "tie 1 9 -> false; tie 2 -1 -> false; fire 1 9 -> false; fire 5 9 -> false; fire -1 9 -> false; level 2 -> false;"
            + "had 9 -> false; value 9 -> 0; times 9 -> BAD; sort 9 -> BAD; leads 9 0 -> false; leads 2 9 -> false;";
        runs.together("refused calls between two transactions change nothing",
            state + refused + "event 0 -> 5; event 2 -> 5; event 3 -> none; event 4 -> 5; value 1 -> 5; transactions -> 1; commit -> 4;"
            + refused + "event 0 -> 6; value 1 -> 6; event 2 -> 6; event 3 -> 5; event 4 -> 11; leads 1 0 -> true; retract -> 4");
        runs.together("questions between two transactions change nothing",
            state + "had 0 -> true; value 0 -> 5; times 0 -> 1; sort 0 -> 1; leads 2 0 -> true; transactions -> 1;".repeat(20)
            + "commit -> 4; event 0 -> 6; event 3 -> 5; event 4 -> 11; value 1 -> 6; transactions -> 2");
        runs.together("node is refused with FULL and all 24 go on",
            "SOURCE; HOLD 0 1;" + "CHANGE 1; DELAY 0;".repeat(11) + "SOURCE -> FULL; fire 0 4; node 15 -> FULL; commit -> 12;"
            + "MAP 0 1 -> FULL; commit -> 11; event 23 -> 4; retract -> 23; COUNT 22 -> 23; SOURCE -> FULL; fire 0 5; commit -> 13;"
            + "event 23 -> 5");
    }

    private static void longRuns() {
        runs.together("the last of each run is the 512th call",
            CLOCK + "commit -> 4;".repeat(500) + "value 0 -> 501; times 2 -> 500; transactions -> 501",
            "SOURCE; HOLD -1 0; SNAP 0 1; tie 1 2;" + "fire 0 3; commit -> 2;".repeat(253) + "value 1 -> 759; times 2 -> 253",
            "SOURCE;" + "COUNT 0 -> 1; fire 0 3; commit -> 2; event 1 -> 3; retract -> 1;".repeat(85) + "times 0 -> 85",
            "SOURCE; HOLD 0 0;" + "LIFT 1 1 -> 2; CHANGE 2 -> 3; fire 0 1; commit -> 2; fire 0 0; commit -> 2; value 3 -> 0;"
                .concat("times 3 -> 2; retract -> 3; retract -> 2;").repeat(51),
            "SOURCE; SOURCE; HOLD -1 0;" + "tie 2 0; fire 0 7; fire 1 9; commit -> 2; value 2 -> 7; tie 2 1; fire 1 8; commit -> 1;"
                .concat("value 2 -> 8;").repeat(56) + "times 0 -> 56; times 1 -> 112; transactions -> 112; value 2 -> 8; sort 2 -> 2");
        runs.together("a sum goes over the greatest int in a long run",
            "SOURCE; COUNT 0; HOLD 1 0; LIFT 2 2;" + "fire 0 536870912; commit -> 2;".repeat(240) + "value 1 -> 0; value 2 -> 0;"
            + "fire 0 MAX; commit; value 1 -> MAX; value 3 -> -2; fire 0 1; commit; value 2 -> MIN; value 3 -> 0; had 1 -> true");
    }
}
