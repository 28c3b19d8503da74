// Every boundary case that 'What it is' and 'Terms' name, each under its own sentence.
public final class TermsEdgeTests {
    private static Runs runs;

    public static void main(String[] args) throws Exception {
        runs = new Runs();
        use();
        nodes();
        transactions();
        wrapping();
        source();
        map();
        filter();
        merge();
        hold();
        snap();
        gate();
        count();
        change();
        switchOver();
        delay();
        once();
        cells();
        parts();
        ties();
        runs.finish();
    }

    private static void terms(String sentence, String... texts) {
        runs.holds("Terms", sentence, texts);
    }

    // The last row of each run is the 512th call.
    private static void use() {
        runs.holds("What it is", "at most 512 calls after it has been made",
            "SOURCE;" + "commit -> 0;".repeat(510) + "transactions -> 510",
            "SOURCE; COUNT 0;" + "fire 0 1; commit -> 2;".repeat(254) + "value 1 -> 254; times 1 -> 254",
            "SOURCE -> 0; retract -> 0;".repeat(256),
            "SOURCE; HOLD 0 1;" + "fire 0 7 -> true;".repeat(508) + "commit -> 1; value 1 -> 7",
            "HOLD -1 1; CHANGE 0;" + "tie 0 1 -> false;".repeat(509) + "leads 1 0 -> true");
    }

    private static void nodes() {
        terms("There are up to 24 NODES",
            "SOURCE;".repeat(23) + "SOURCE -> 23; SOURCE -> FULL; sort 23 -> 1; sort 24 -> BAD",
            "HOLD -1;".repeat(23) + "HOLD -1 -> 23; HOLD -1 -> FULL; sort 23 -> 2; sort 24 -> BAD",
            "SOURCE; HOLD 0;" + "MAP 0 1; LIFT 1 1;".repeat(11) + "SOURCE -> FULL; sort 23 -> 2; fire 0 3; commit -> 12");
        StringBuilder numbers = new StringBuilder();
        for (int n = 0; n < 24; n++) {
            numbers.append(n % 2 == 0 ? "SOURCE -> " : "HOLD -1 0 -> ").append(n).append(";");
        }
        terms("numbered from 0", numbers.toString());
        terms("made one a call",
            "SOURCE -> 0; sort 0 -> 1; sort 1 -> BAD",
            "SOURCE; node 15 -> BAD; MAP 9 1 -> BAD; sort 1 -> BAD; HOLD 0 -> 1; sort 1 -> 2; sort 2 -> BAD");
        terms("each is an EVENT or a CELL",
            "SOURCE; HOLD 0; MAP 0; FILTER 0; MERGE 0 0; SNAP 0 1; LIFT 1 1; GATE 0 1; COUNT 0; CHANGE 1;"
            + "SWITCH 1 0 0; DELAY 0; ONCE 0; SELECT 1 1 1; TIMES 1;"
            + Runs.each("sort % -> 1", 0, 2, 3, 4, 5, 7, 8, 9, 10, 11, 12) + Runs.each("sort % -> 2", 1, 6, 13, 14));
    }

    private static void transactions() {
        terms("In a transaction an event has a value or none",
            "SOURCE; event 0 -> none; commit -> 0; event 0 -> none; fire 0 0; commit -> 1; event 0 -> 0;"
            + "fire 0 -1; commit -> 1; event 0 -> -1; commit -> 0; event 0 -> none");
        terms("a cell has a value BEFORE it and one AFTER it",
            "SOURCE; HOLD 0 4; SNAP 0 1; fire 0 10; commit -> 2; event 2 -> 14; value 1 -> 10",
            "SOURCE; HOLD 0 4; fire 0 10; value 1 -> 4; commit; value 1 -> 10");
        terms("which is that before the next one",
            "SOURCE; HOLD 0 4; SNAP 0 1; fire 0 10; commit; fire 0 1; commit; event 2 -> 11; value 1 -> 1",
            "SOURCE; HOLD 0 4; SNAP 0 1; fire 0 10; commit; commit; commit; fire 0 2; commit; event 2 -> 12",
            "SOURCE; HOLD 0 4; fire 0 10; commit; SNAP 0 1; fire 0 3; commit; event 2 -> 13");
    }

    private static void wrapping() {
        terms("All values are ints",
            "SOURCE; HOLD 0 MIN; value 1 -> MIN; fire 0 MAX; commit; event 0 -> MAX; value 1 -> MAX;"
            + "fire 0 MIN; commit; event 0 -> MIN; value 1 -> MIN",
            "SOURCE; FILTER 0 MAX; FILTER 0 MIN; fire 0 MIN; commit -> 2; event 1 -> none; event 2 -> MIN;"
            + "fire 0 MAX; commit -> 3; event 1 -> MAX; event 2 -> MAX;"
            + "fire 0 2147483646; commit -> 2; event 1 -> none",
            "SOURCE; HOLD 0 MIN; CHANGE 1; GATE 0 1; SWITCH 1 0 2; SELECT 1 1 1; fire 0 MAX; commit -> 4;"
            + "event 2 -> MAX; event 3 -> MAX; event 4 -> MAX; fire 0 MIN; commit; event 2 -> MIN",
            "SOURCE; HOLD 0 65536; GATE 0 1; CHANGE 1; fire 0 0; commit -> 3; event 2 -> 0; event 3 -> 0");
        terms("arithmetic wraps as in Java",
            "SOURCE; MAP 0 1 1; MAP 0 2; MAP 0 MAX; fire 0 MAX; commit;"
            + "event 1 -> MIN; event 2 -> -2; event 3 -> 1; fire 0 MIN; commit; event 2 -> 0; event 3 -> MIN",
            "SOURCE; MAP 0 -1; MAP 0 1 -1; MAP 0 65536; fire 0 MIN; commit; event 1 -> MIN; event 2 -> MAX;"
            + "fire 0 65536; commit -> 4; event 3 -> 0",
            "SOURCE; SOURCE; MERGE 0 1; fire 0 MAX; fire 1 1; commit; event 2 -> MIN;"
            + "fire 0 MIN; fire 1 MIN; commit -> 3; event 2 -> 0; fire 0 MIN; fire 1 -1; commit; event 2 -> MAX",
            "SOURCE; HOLD -1 MAX; HOLD -1 MIN; SNAP 0 1; SNAP 0 2; fire 0 1; commit; event 3 -> MIN;"
            + "fire 0 -1; commit; event 4 -> MAX",
            "HOLD -1 MAX; HOLD -1 MIN; LIFT 0 0; LIFT 1 1; LIFT 0 1; value 2 -> -2; value 3 -> 0; value 4 -> -1",
            "HOLD -1 MAX; TIMES 0 1 1; TIMES 0 2 0; TIMES 0 MAX MAX; value 1 -> MIN; value 2 -> -2; value 3 -> MIN",
            "SOURCE; HOLD 0 0; LIFT 1 1; TIMES 1 2 0; fire 0 MIN; commit; value 2 -> 0; value 3 -> 0;"
            + "fire 0 MAX; commit; value 2 -> -2; value 3 -> -2",
            "SOURCE; COUNT 0; fire 0 MAX; commit; fire 0 1; commit; event 1 -> MIN; fire 0 -1; commit; event 1 -> MAX");
    }

    private static void source() {
        terms("the value that has been fired into it since the transaction before",
            "SOURCE; fire 0 5; commit -> 1; event 0 -> 5; commit -> 0; event 0 -> none",
            "SOURCE; SOURCE; fire 0 5; commit; fire 1 6; commit -> 1; event 0 -> none; event 1 -> 6",
            "SOURCE; commit; commit; fire 0 5; commit -> 1; event 0 -> 5",
            "SOURCE; fire 0 5; SOURCE; HOLD 0; tie 2 1; tie 2 0; tie 2 -1; retract -> 2; commit -> 1; event 0 -> 5");
        terms("if any", "SOURCE; commit -> 0; event 0 -> none", "SOURCE; SOURCE; fire 1 3; commit -> 1; event 0 -> none");
        terms("(the last one)",
            "SOURCE; fire 0 5; fire 0 7; commit -> 1; event 0 -> 7; times 0 -> 1; commit -> 0",
            "SOURCE; fire 0 7; fire 0 5; fire 0 0; commit -> 1; event 0 -> 0",
            "SOURCE; SOURCE; fire 0 1; fire 1 2; fire 0 3; commit -> 2; event 0 -> 3; event 1 -> 2");
    }

    private static void map() {
        terms("e's value * m + n, if e has one",
            "SOURCE; MAP 0 3 -4; commit -> 0; event 1 -> none; fire 0 5; commit -> 2; event 1 -> 11; commit -> 0;"
            + "event 1 -> none",
            "SOURCE; MAP 0 0 0; MAP 0 0 6; MAP 0 -1 0; fire 0 5; commit -> 4; event 1 -> 0; event 2 -> 6; event 3 -> -5",
            "SOURCE; MAP 0 9 2; fire 0 0; commit -> 2; event 1 -> 2");
    }

    private static void filter() {
        terms("e's value, if it has one and that is at least m",
            "SOURCE; FILTER 0 5; fire 0 4; commit -> 1; event 1 -> none; fire 0 0; commit -> 1; event 1 -> none; fire 0 5; commit -> 2; event 1 -> 5;"
            + "fire 0 6; commit -> 2; event 1 -> 6",
            "SOURCE; FILTER 0 0; FILTER 0 -1; FILTER 0 MIN; commit -> 0; event 1 -> none; event 2 -> none; event 3 -> none;"
            + "fire 0 -1; commit -> 3; event 1 -> none; event 2 -> -1; fire 0 0; commit -> 4; event 1 -> 0;"
            + "fire 0 -2; commit -> 2; event 2 -> none");
    }

    private static void merge() {
        terms("the sum of their values if both have one",
            "SOURCE; SOURCE; MERGE 0 1; fire 0 5; fire 1 7; commit -> 3; event 2 -> 12",
            "SOURCE; SOURCE; MERGE 0 1; fire 0 5; fire 1 -5; commit -> 3; event 2 -> 0",
            "SOURCE; MERGE 0 0; fire 0 4; commit -> 2; event 1 -> 8; commit -> 0; event 1 -> none");
        terms("else the value of the one that has one",
            "SOURCE; SOURCE; MERGE 0 1; fire 0 5; commit -> 2; event 2 -> 5; fire 1 7; commit -> 2; event 2 -> 7",
            "SOURCE; SOURCE; MERGE 0 1; fire 0 0; commit -> 2; event 2 -> 0; fire 1 0; commit -> 2; event 2 -> 0",
            "SOURCE; SOURCE; MERGE 0 1; fire 0 5; fire 1 6; commit; commit -> 0; event 2 -> none",
            "SOURCE; FILTER 0 9; MERGE 0 1; MERGE 1 0; fire 0 8; commit -> 3; event 2 -> 8; event 3 -> 8");
    }

    private static void hold() {
        terms("n at first",
            "SOURCE; HOLD 0 5; value 1 -> 5; commit -> 0; value 1 -> 5",
            "SOURCE; fire 0 9; commit; HOLD 0 5; value 1 -> 5; commit; value 1 -> 5",
            "SOURCE; fire 0 9; HOLD 0 5; value 1 -> 5; commit; value 1 -> 9",
            "SOURCE; HOLD 0 5; fire 0 9; commit; retract -> 1; HOLD 0 6 -> 1; value 1 -> 6",
            "HOLD -1 0; HOLD -1 -1; value 0 -> 0; value 1 -> -1");
        terms("after a transaction in which e has a value that one",
            "SOURCE; HOLD 0 5; fire 0 8; value 1 -> 5; commit; value 1 -> 8; commit; commit; value 1 -> 8;"
            + "fire 0 0; commit; value 1 -> 0",
            "SOURCE; FILTER 0 5; HOLD 1 3; fire 0 4; commit; value 2 -> 3; fire 0 6; commit; value 2 -> 6;"
            + "fire 0 4; commit; value 2 -> 6");
        terms("e may be -1: no event, until it is tied",
            "SOURCE; HOLD -1 5 -> 1; fire 0 8; commit -> 1; value 1 -> 5; leads 1 0 -> false; tie 1 0;"
            + "value 1 -> 5; commit; value 1 -> 5; fire 0 9; commit; value 1 -> 9",
            "HOLD -1 5 -> 0; commit -> 0; value 0 -> 5; SOURCE; tie 0 1; fire 1 3; commit -> 1; value 0 -> 3");
    }

    private static void snap() {
        terms("e's value plus c's before, if e has one",
            "SOURCE; SOURCE; HOLD 1 5; SNAP 0 2; commit -> 0; event 3 -> none; fire 1 6; commit -> 1; event 3 -> none;"
            + "fire 0 10; commit -> 2; event 3 -> 16",
            "SOURCE; HOLD 0 5; SNAP 0 1; fire 0 10; commit; event 2 -> 15; fire 0 -10; commit -> 2; event 2 -> 0",
            "SOURCE; HOLD 0 5; LIFT 1 1; SNAP 0 2; fire 0 1; commit; event 3 -> 11; value 2 -> 2");
    }

    private static void gate() {
        terms("e's value, if it has one and c's before is not 0",
            "SOURCE; HOLD 0 0; GATE 0 1; fire 0 7; commit -> 1; event 2 -> none; value 1 -> 7;"
            + "fire 0 0; commit -> 2; event 2 -> 0; fire 0 3; commit -> 1; event 2 -> none",
            "SOURCE; HOLD -1 1; GATE 0 1; commit -> 0; event 2 -> none; fire 0 7; commit -> 2; event 2 -> 7",
            "SOURCE; HOLD -1 -1; GATE 0 1; fire 0 7; commit -> 2; event 2 -> 7");
    }

    private static void count() {
        terms("if e has a value the sum of all values that e has had since this node was made, with this one",
            "SOURCE; COUNT 0; commit -> 0; event 1 -> none; fire 0 5; commit -> 2; event 1 -> 5; commit -> 0;"
            + "event 1 -> none; fire 0 6; commit; event 1 -> 11; fire 0 -11; commit -> 2; event 1 -> 0;"
            + "fire 0 0; commit -> 2; event 1 -> 0",
            "SOURCE; fire 0 100; commit; COUNT 0; event 1 -> none; fire 0 5; commit; event 1 -> 5",
            "SOURCE; fire 0 7; COUNT 0; commit -> 2; event 1 -> 7",
            "SOURCE; COUNT 0; fire 0 100; commit; retract -> 1; COUNT 0 -> 1; fire 0 5; commit; event 1 -> 5",
            "SOURCE; COUNT 0; fire 0 1; commit; COUNT 0; fire 0 2; commit; event 1 -> 3; event 2 -> 2",
            "SOURCE; FILTER 0 3; COUNT 1; fire 0 2; commit; fire 0 4; commit; event 2 -> 4; fire 0 1; commit;"
            + "event 2 -> none; fire 0 3; commit; event 2 -> 7");
    }

    private static void change() {
        terms("c's value after, if that is another one than before",
            "SOURCE; HOLD 0 5; CHANGE 1; commit -> 0; event 2 -> none; fire 0 5; commit -> 1; event 2 -> none;"
            + "fire 0 6; commit -> 2; event 2 -> 6; fire 0 6; commit -> 1; event 2 -> none;"
            + "fire 0 0; commit -> 2; event 2 -> 0; commit -> 0; event 2 -> none",
            "SOURCE; HOLD 0 5; fire 0 6; commit; CHANGE 1; event 2 -> none; commit -> 0; event 2 -> none",
            "SOURCE; SOURCE; HOLD 0 1; HOLD 1 2; LIFT 2 3; CHANGE 4; fire 0 2; fire 1 1; commit -> 2; event 5 -> none;"
            + "fire 0 3; commit -> 2; event 5 -> 4",
            "SOURCE; HOLD 0 5; SELECT 1 1 1; TIMES 1 0 3; CHANGE 2; CHANGE 3; fire 0 6; commit -> 2; event 4 -> 6;"
            + "event 5 -> none",
            "SOURCE; fire 0 3; commit; HOLD 0 5; CHANGE 1; fire 0 5; commit -> 1; event 2 -> none",
            "SOURCE; HOLD -1 5; CHANGE 1; tie 1 0; commit -> 0; tie 1 -1; commit -> 0; event 2 -> none");
    }

    private static void switchOver() {
        terms("what e has, if c's before is not 0",
            "SOURCE; SOURCE; HOLD -1 1; SWITCH 2 0 1; fire 0 5; fire 1 6; commit -> 3; event 3 -> 5;"
            + "fire 1 6; commit -> 1; event 3 -> none; fire 0 0; commit -> 2; event 3 -> 0",
            "SOURCE; SOURCE; HOLD -1 -1; SWITCH 2 0 1; fire 0 5; commit -> 2; event 3 -> 5",
            "SOURCE; SOURCE; HOLD 0 1; SWITCH 2 0 1; fire 0 0; commit -> 2; event 3 -> 0; value 2 -> 0");
        terms("else what f has",
            "SOURCE; SOURCE; HOLD -1 0; SWITCH 2 0 1; fire 0 5; fire 1 6; commit -> 3; event 3 -> 6;"
            + "fire 0 5; commit -> 1; event 3 -> none; fire 1 0; commit -> 2; event 3 -> 0; commit -> 0; event 3 -> none",
            "SOURCE; SOURCE; HOLD 1 0; SWITCH 2 0 1; fire 1 6; commit -> 2; event 3 -> 6; value 2 -> 6;"
            + "fire 1 0; commit -> 1; event 3 -> none");
    }

    private static void delay() {
        terms("what e had in the transaction before",
            "SOURCE; DELAY 0; commit -> 0; event 1 -> none; fire 0 5; commit -> 1; event 1 -> none; commit -> 1;"
            + "event 1 -> 5; commit -> 0; event 1 -> none",
            "SOURCE; DELAY 0; fire 0 0; commit -> 1; commit -> 1; event 1 -> 0",
            "SOURCE; DELAY 0; fire 0 5; commit -> 1; fire 0 6; commit -> 2; event 0 -> 6; event 1 -> 5; commit -> 1;"
            + "event 1 -> 6",
            "SOURCE; DELAY 0; DELAY 1; fire 0 5; commit; commit -> 1; event 2 -> none; commit -> 1; event 1 -> none;"
            + "event 2 -> 5",
            "SOURCE; DELAY 0; fire 0 5; commit; fire 0 9; event 1 -> none; commit -> 2; event 1 -> 5");
        terms("(nothing if this node was not there then)",
            "SOURCE; fire 0 5; commit; DELAY 0; event 1 -> none; commit -> 0; event 1 -> none; commit -> 0; event 1 -> none",
            "SOURCE; fire 0 5; DELAY 0; commit -> 1; event 1 -> none; commit -> 1; event 1 -> 5",
            "SOURCE; DELAY 0; fire 0 5; commit; retract -> 1; DELAY 0 -> 1; commit -> 0; event 1 -> none",
            "DELAY 0 -> BAD; SOURCE; DELAY 0; commit -> 0; event 1 -> none");
    }

    private static void once() {
        terms("what e has, in the first transaction since this node was made in which it has a value",
            "SOURCE; ONCE 0; commit -> 0; event 1 -> none; fire 0 5; commit -> 2; event 1 -> 5; commit -> 0;"
            + "event 1 -> none; fire 0 6; commit -> 1; event 1 -> none; times 1 -> 1",
            "SOURCE; ONCE 0; fire 0 0; commit -> 2; event 1 -> 0; fire 0 6; commit -> 1; event 1 -> none",
            "SOURCE; fire 0 5; commit; ONCE 0; event 1 -> none; commit -> 0; fire 0 6; commit -> 2; event 1 -> 6",
            "SOURCE; fire 0 7; ONCE 0; commit -> 2; event 1 -> 7; fire 0 7; commit -> 1; event 1 -> none",
            "SOURCE; ONCE 0; fire 0 5; commit -> 2; retract -> 1; ONCE 0 -> 1; event 1 -> none; fire 0 6; commit -> 2;"
            + "event 1 -> 6");
    }

    private static void cells() {
        terms("c + d",
            "HOLD -1 3; HOLD -1 -8; LIFT 0 1; LIFT 0 0; value 2 -> -5; value 3 -> 6",
            "SOURCE; HOLD 0 3; HOLD -1 4; LIFT 1 2; fire 0 -4; commit; value 3 -> 0");
        terms("d's value if c's is not 0, else g's",
            "SOURCE; HOLD 0 0; HOLD -1 11; HOLD -1 22; SELECT 1 2 3; value 4 -> 22; fire 0 1; commit; value 4 -> 11;"
            + "fire 0 -1; commit; value 4 -> 11; fire 0 0; commit; value 4 -> 22");
        terms("c's value * m + n",
            "HOLD -1 3; TIMES 0 5 -1; TIMES 0 0 0; TIMES 0 0 7; TIMES 0 -2 0; value 1 -> 14; value 2 -> 0; value 3 -> 7;"
            + "value 4 -> -6",
            "SOURCE; HOLD 0 3; TIMES 1 5 -1; fire 0 0; commit; value 2 -> -1");
        String cells = "SOURCE; HOLD 0 0; HOLD -1 7; LIFT 1 2; SELECT 1 1 2; TIMES 1 2 5;";
        terms("before from before, after from after",
            cells + "SNAP 0 3; SNAP 0 4; SNAP 0 5; CHANGE 3; CHANGE 4; CHANGE 5; fire 0 1; commit -> 7;"
            + "event 6 -> 8; event 7 -> 8; event 8 -> 6; event 9 -> 8; event 10 -> 1; event 11 -> 7;"
            + "fire 0 3; commit -> 7; event 6 -> 11; event 7 -> 4; event 8 -> 10; event 9 -> 10; event 10 -> 3;"
            + "event 11 -> 11",
            cells + "value 3 -> 7; value 4 -> 7; value 5 -> 5; fire 0 1; value 3 -> 7; value 4 -> 7; value 5 -> 5;"
            + "commit; value 3 -> 8; value 4 -> 1; value 5 -> 7",
            "SOURCE; HOLD 0 0; TIMES 1 1 0; GATE 0 2; SWITCH 2 0 3; fire 0 1; commit -> 1; fire 0 0; commit -> 3;"
            + "fire 0 1; commit -> 1",
            "SOURCE; HOLD 0 4; fire 0 9; commit; LIFT 1 1; TIMES 1 1 1; SELECT 1 2 3; CHANGE 2; CHANGE 3; CHANGE 4;"
            + "value 2 -> 18; value 3 -> 10; value 4 -> 18; commit -> 0");
    }

    private static void parts() {
        String four = "SOURCE; SOURCE; HOLD -1; HOLD -1;";
        terms("The PARTS of a node are those that it is made of here",
            four + "SOURCE 1 2 3;" + leadsTo(4, false, 0, 1, 2, 3),
            four + "MAP 1 0 2;" + leadsTo(4, true, 1) + leadsTo(4, false, 0, 2, 3),
            four + "FILTER 1 0 2;" + leadsTo(4, true, 1) + leadsTo(4, false, 0, 2, 3),
            four + "MERGE 0 1 2;" + leadsTo(4, true, 0, 1) + leadsTo(4, false, 2, 3),
            four + "HOLD 1 0 2;" + leadsTo(4, true, 1) + leadsTo(4, false, 0, 2, 3),
            four + "HOLD -1 1 2;" + leadsTo(4, false, 0, 1, 2, 3),
            "HOLD -1;" + "SOURCE;".repeat(23) + leadsTo(0, false, 0, 1, 11, 22, 23),
            four + "SNAP 1 2 0;" + leadsTo(4, true, 1) + leadsTo(4, false, 0, 3),
            four + "LIFT 2 3 0;" + leadsTo(4, true, 2, 3) + leadsTo(4, false, 0, 1),
            four + "GATE 1 2 0;" + leadsTo(4, true, 1) + leadsTo(4, false, 0, 3),
            four + "COUNT 1 0 2;" + leadsTo(4, true, 1) + leadsTo(4, false, 0, 2, 3),
            four + "CHANGE 3 0 2;" + leadsTo(4, true, 3) + leadsTo(4, false, 0, 1, 2),
            four + "SWITCH 3 0 1;" + leadsTo(4, true, 0, 1) + leadsTo(4, false, 2),
            four + "ONCE 1 0 2;" + leadsTo(4, true, 1) + leadsTo(4, false, 0, 2, 3),
            four + "SELECT 2 3 3;" + leadsTo(4, true, 2, 3) + leadsTo(4, false, 0, 1),
            four + "SELECT 2 2 3;" + leadsTo(4, true, 2, 3) + leadsTo(4, false, 0, 1),
            four + "SELECT 3 2 3;" + leadsTo(4, true, 2, 3) + leadsTo(4, false, 0, 1),
            four + "TIMES 3 1 2;" + leadsTo(4, true, 3) + leadsTo(4, false, 0, 1, 2));
        terms("but not c in SNAP, GATE and SWITCH",
            four + "SNAP 0 2; leads 4 2 -> false; tie 2 4 -> true; leads 4 2 -> false; leads 2 4 -> true",
            four + "GATE 0 2; leads 4 2 -> false; tie 2 4 -> true; leads 4 2 -> false; leads 2 4 -> true",
            four + "SWITCH 2 0 1; leads 4 2 -> false; tie 2 4 -> true; leads 4 2 -> false; leads 2 4 -> true",
            four + "CHANGE 2; SNAP 4 3; leads 5 2 -> true; tie 2 5 -> false; tie 3 5 -> true",
            "SOURCE; HOLD -1 1; SNAP 0 1; tie 1 2; fire 0 5; commit; value 1 -> 6; fire 0 5; commit; value 1 -> 11",
            "SOURCE; HOLD -1 1; GATE 0 1; tie 1 2; fire 0 5; commit; value 1 -> 5; fire 0 0; commit; value 1 -> 0;"
            + "fire 0 5; commit; value 1 -> 0",
            "SOURCE; HOLD -1 1; MAP 0 10; SWITCH 1 0 2; tie 1 3; fire 0 0; commit; value 1 -> 0; fire 0 3; commit;"
            + "value 1 -> 30; fire 0 4; commit; value 1 -> 4");
        terms("and none for DELAY",
            four + "DELAY 0;" + leadsTo(4, false, 0, 1, 2, 3, 4),
            four + "CHANGE 2; DELAY 4; MAP 5 1 1; leads 6 5 -> true; leads 6 4 -> false; leads 6 2 -> false;"
            + "tie 2 4 -> false; tie 2 6 -> true; tie 2 5 -> true",
            "SOURCE; HOLD -1 1; CHANGE 1; DELAY 2; MERGE 0 3; tie 1 4; fire 0 5; commit -> 3; value 1 -> 5;"
            + "fire 0 1; commit -> 4; value 1 -> 6; commit -> 2; value 1 -> 6");
    }

    private static String leadsTo(int n, boolean due, Object... nodes) {
        return Runs.each("leads " + n + " % -> " + due, nodes);
    }

    private static void ties() {
        terms("No HOLD may be tied so that from its event one comes to it over parts",
            "HOLD -1 0; CHANGE 0; tie 0 1 -> false; leads 0 1 -> false",
            "HOLD -1; HOLD -1; CHANGE 0; CHANGE 1; tie 0 3 -> true; tie 1 2 -> false; tie 0 -1; tie 1 2 -> true;"
            + "tie 0 3 -> false",
            "SOURCE; HOLD 0; CHANGE 1; HOLD 2; CHANGE 3; HOLD 4; CHANGE 5; tie 1 6 -> false; tie 1 4 -> false;"
            + "tie 3 6 -> false; tie 5 6 -> false; tie 5 4 -> true; tie 5 2 -> true; leads 5 3 -> false; tie 3 6 -> true");
        terms("so in every transaction all values follow",
            "HOLD -1; CHANGE 0; HOLD -1; CHANGE 2; HOLD -1; CHANGE 4; SOURCE; tie 0 3; tie 2 5; tie 4 6;"
            + "fire 6 8; commit -> 4; value 0 -> 8; value 2 -> 8; value 4 -> 8; event 1 -> 8; event 3 -> 8; event 5 -> 8;"
            + "tie 0 6; tie 2 1; tie 4 3; fire 6 9; commit -> 4; value 4 -> 9; event 5 -> 9; event 1 -> 9",
            "HOLD -1 1; TIMES 0 2 0; CHANGE 1; SOURCE; MAP 3 1 1; tie 0 4; fire 3 5; commit -> 3; event 2 -> 12;"
            + "SOURCE; tie 0 5; fire 5 7; commit -> 2; event 2 -> 14; retract -> 5; tie 0 3; fire 3 1; commit -> 3;"
            + "event 2 -> 2",
            "SOURCE; commit -> 0; MAP 0 2; fire 0 3; commit -> 2; event 1 -> 6; HOLD 1; TIMES 2 2; CHANGE 3; fire 0 4;"
            + "commit -> 3; event 4 -> 16");
    }
}
