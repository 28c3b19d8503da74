// Every boundary case that the promises name, each under its own sentence.
public final class PromiseEdgeTests {
    private static final String[] KINDS = {"SOURCE", "MAP", "FILTER", "MERGE", "HOLD", "SNAP", "LIFT", "GATE",
        "COUNT", "CHANGE", "SWITCH", "DELAY", "ONCE", "SELECT", "TIMES"};

    // The sort that x, y and z must have, per kind: e for an event, c for a cell, - for a number or nothing.
    private static final String[] OPERANDS = {
        "---", "e--", "e--", "ee-", "e--", "ec-", "cc-", "ec-", "e--", "c--", "cee", "e--", "e--", "ccc", "c--"};

    // Numbers that no node can have.
    private static final Object[] NEVER = {"-1", "-2", "24", "25", "32", "56", "256", "65536", "MIN", "MAX"};

    // Node n is of kind n.
    private static final String ALL_KINDS = "SOURCE; MAP 0 1; FILTER 0 MIN; MERGE 0 1; HOLD 0 1; SNAP 0 4; LIFT 4 4;"
        + "GATE 0 4; COUNT 0; CHANGE 4; SWITCH 4 0 1; DELAY 0; ONCE 0; SELECT 4 4 6; TIMES 4 2;";
    private static final Object[] CELLS = {4, 6, 13, 14};
    private static final Object[] EVENTS = {0, 1, 2, 3, 5, 7, 8, 9, 10, 11, 12};

    private static Runs runs;

    public static void main(String[] args) throws Exception {
        runs = new Runs();
        newObject();
        nodeOperands();
        nodeOrder();
        nodeFresh();
        tie();
        tieRefused();
        retract();
        fire();
        commit();
        had();
        value();
        times();
        sort();
        leads();
        transactions();
        level();
        runs.finish();
    }

    private static void promise(int number, String sentence, String... texts) {
        runs.holds("Promise " + number, sentence, texts);
    }

    private static void newObject() {
        promise(1, "No nodes",
            "retract -> BAD", "sort 0 -> BAD; sort 23 -> BAD", "times 0 -> BAD", "had 0 -> false", "value 0 -> 0",
            "leads 0 0 -> false", "fire 0 1 -> false", "tie 0 -1 -> false", "tie 0 0 -> false", "commit -> 0",
            "MAP 0 1 -> BAD; CHANGE 0 -> BAD; HOLD 0 -> BAD", "SOURCE -> 0", "HOLD -1 -> 0");
        promise(1, "no transaction yet",
            "transactions -> 0", "SOURCE; times 0 -> 0; event 0 -> none; transactions -> 0",
            "SOURCE; DELAY 0; fire 0 1; commit -> 1; transactions -> 1");
        promise(1, "the level is 1",
            "SOURCE; HOLD -1 0; CHANGE 1; tie 1 0; fire 0 4; commit -> 2; level 1; fire 0 5; commit -> 2; event 2 -> 5");
    }

    private static String made(int kind, Object[] operands) {
        return KINDS[kind] + " " + operands[0] + " " + operands[1] + " " + operands[2];
    }

    // Operands that fit kind, where node 0 is an event and node 1 a cell.
    private static Object[] fitting(int kind, Object number) {
        Object[] operands = new Object[3];
        for (int i = 0; i < 3; i++) {
            char sort = OPERANDS[kind].charAt(i);
            operands[i] = sort == 'e' ? (Object) 0 : sort == 'c' ? (Object) 1 : number;
        }
        return operands;
    }

    private static void nodeOperands() {
        promise(2, "Makes a node with its operands in the order above in x, y and z",
            "SOURCE; MAP 0 3 4; fire 0 10; commit; event 1 -> 34",
            "SOURCE; FILTER 0 3 9; fire 0 5; commit -> 2; fire 0 2; commit -> 1",
            "SOURCE; HOLD 0 3 9; value 1 -> 3",
            "SOURCE; HOLD -1 3; SNAP 1 0 -> BAD; SNAP 0 1 -> 2; GATE 1 0 -> BAD; GATE 0 1 -> 3",
            "SOURCE; HOLD -1 3; SWITCH 0 1 0 -> BAD; SWITCH 0 0 1 -> BAD; SWITCH 1 0 0 -> 2",
            "SOURCE; SOURCE; HOLD -1 1; SWITCH 2 0 1; fire 0 5; fire 1 6; commit; event 3 -> 5",
            "HOLD -1 1; HOLD -1 7; HOLD -1 8; SELECT 0 1 2; value 3 -> 7",
            "HOLD -1 10; TIMES 0 3 4; value 1 -> 34");
        StringBuilder outside = new StringBuilder("SOURCE; HOLD -1 1;");
        outside.append(Runs.each("node % 0 0 0 -> BAD; node % 1 1 1 -> BAD", "-1", "-2", "15", "16", "-14", "256", "260",
            "65536", "MIN", "MAX")).append("sort 2 -> BAD; node 14 1 0 0 -> 2; node 0 0 0 0 -> 3");
        promise(2, "kind outside 0..14", outside.toString());
        for (int kind = 0; kind < KINDS.length; kind++) {
            promise(2, "a node that it is made of is not there", notThere(kind, "SOURCE"), notThere(kind, "HOLD -1"));
            promise(2, "or not of the right sort: BAD", wrongSort(kind));
            promise(2, "Else answers its number",
                "SOURCE; HOLD -1;" + Runs.each(made(kind, fitting(kind, "%")) + " -> 2; retract -> 2", NEVER)
                + made(kind, fitting(kind, 0)) + " -> 2;" + made(kind, fitting(kind, 1)) + " -> 3");
        }
    }

    // Node 2 has been there and is retracted; node 3 never was.
    private static String notThere(int kind, String retracted) {
        StringBuilder text = new StringBuilder("SOURCE; HOLD -1;" + retracted + "; retract -> 2;");
        for (int i = 0; i < 3; i++) {
            if (OPERANDS[kind].charAt(i) == '-') {
                continue;
            }
            Object[] operands = fitting(kind, 0);
            for (Object gone : new Object[] {2, 3, 23}) {
                operands[i] = gone;
                text.append(made(kind, operands)).append(" -> BAD;");
            }
            for (Object gone : NEVER) {
                operands[i] = gone;
                boolean untied = KINDS[kind].equals("HOLD") && gone.equals("-1");
                text.append(made(kind, operands)).append(untied ? " -> 2; retract -> 2;" : " -> BAD;");
            }
        }
        return text.append("sort 2 -> BAD").toString();
    }

    private static String wrongSort(int kind) {
        StringBuilder text = new StringBuilder("SOURCE; HOLD -1;");
        for (int i = 0; i < 3; i++) {
            if (OPERANDS[kind].charAt(i) != '-') {
                Object[] operands = fitting(kind, 0);
                operands[i] = OPERANDS[kind].charAt(i) == 'e' ? 1 : 0;
                text.append(made(kind, operands)).append(" -> BAD;");
            }
        }
        return text.append("sort 2 -> BAD").toString();
    }

    private static void nodeOrder() {
        promise(2, "Tested in this order: 24 are there: FULL",
            "SOURCE;".repeat(24) + "SOURCE -> FULL; node 15 -> FULL; node -1 -> FULL; MAP 24 1 -> FULL; MAP -1 1 -> FULL;"
            + "LIFT 0 0 -> FULL; HOLD -1 -> FULL; sort 24 -> BAD; retract -> 23; node 15 -> BAD; MAP 23 1 -> BAD;"
            + "LIFT 0 0 -> BAD; MAP 22 1 -> 23; SOURCE -> FULL",
            "HOLD -1;".repeat(23) + "node 15 -> BAD; MAP 0 -> BAD; HOLD -1 -> 23; node 15 -> FULL; MAP 0 -> FULL");
    }

    private static void nodeFresh() {
        StringBuilder remade = new StringBuilder("SOURCE; HOLD 0 1;");
        for (int kind = 0; kind < KINDS.length; kind++) {
            remade.append("SOURCE; fire 2 9; fire 0 1; commit; retract -> 2; SOURCE; fire 2 5; retract -> 2;");
            remade.append(made(kind, fitting(kind, 0))).append("; had 2 -> false; times 2 -> 0;");
            remade.append(isCell(kind) ? "retract -> 2;" : "value 2 -> 0; retract -> 2;");
        }
        promise(2, "It has had no value in any transaction",
            "SOURCE; fire 0 6; commit; MAP 0 1; event 1 -> none; times 1 -> 0; times 0 -> 1",
            "SOURCE; fire 0 6; event 0 -> none; times 0 -> 0; retract -> 0; SOURCE -> 0; commit -> 0; times 0 -> 0",
            "SOURCE; fire 0 6; commit; retract -> 0; SOURCE; event 0 -> none; times 0 -> 0; commit -> 0; event 0 -> none",
            "SOURCE; MAP 0 1; fire 0 6; commit; retract -> 1; MAP 0 1; event 1 -> none; times 1 -> 0; fire 0 2; commit;"
            + "times 1 -> 1; times 0 -> 2",
            remade.toString());
    }

    private static boolean isCell(int kind) {
        return kind == 4 || kind == 6 || kind == 13 || kind == 14;
    }

    private static void tie() {
        promise(3, "From now on HOLD h has event e",
            "SOURCE; SOURCE; HOLD 0 3; tie 2 1 -> true; value 2 -> 3; leads 2 1 -> true; leads 2 0 -> false;"
            + "fire 0 5; commit; value 2 -> 3; fire 1 6; commit; value 2 -> 6",
            "SOURCE; SOURCE; HOLD 0 3; fire 1 5; commit; tie 2 1; value 2 -> 3; commit; value 2 -> 3",
            "SOURCE; SOURCE; HOLD 0 3; fire 0 5; commit; tie 2 1; value 2 -> 5; commit; value 2 -> 5",
            "SOURCE; SOURCE; HOLD 0 3; fire 1 5; tie 2 1; commit; value 2 -> 5",
            "HOLD -1 3; SOURCE; tie 0 1; fire 1 5; commit; value 0 -> 5; tie 0 1; fire 1 6; commit; value 0 -> 6",
            "SOURCE; HOLD -1 1; HOLD -1 2; tie 1 0; tie 2 0; fire 0 5; commit; value 1 -> 5; value 2 -> 5");
        promise(3, "(e = -1: none)",
            "SOURCE; HOLD 0 3; tie 1 -1 -> true; value 1 -> 3; leads 1 0 -> false; fire 0 5; commit; value 1 -> 3",
            "SOURCE; HOLD 0 3; fire 0 5; commit; tie 1 -1; tie 1 -1 -> true; value 1 -> 5; fire 0 6; commit; value 1 -> 5",
            "HOLD -1 3; tie 0 -1 -> true; commit -> 0; value 0 -> 3");
        promise(3, "Else true", "SOURCE; HOLD 0; tie 1 0 -> true; tie 1 -1 -> true",
            "HOLD -1;".repeat(23) + "SOURCE; tie 0 23 -> true; tie 22 23 -> true; fire 23 4; commit; value 0 -> 4; value 22 -> 4",
            "SOURCE; MAP 0; FILTER 0; MERGE 0 0; HOLD -1; SNAP 0 4; GATE 0 4; COUNT 0; SWITCH 4 0 0; DELAY 0; ONCE 0;"
            + Runs.each("tie 4 % -> true", 0, 1, 2, 3, 5, 6, 7, 8, 9, 10));
    }

    private static void tieRefused() {
        promise(3, "h is no HOLD",
            ALL_KINDS + Runs.each("tie % 0 -> false; tie % -1 -> false", 0, 1, 2, 3, 5, 6, 7, 8, 9, 10, 11, 12, 13, 14)
            + "tie 4 0 -> true",
            ALL_KINDS + Runs.each("tie % 0 -> false; tie % -1 -> false", 15, 23) + Runs.each("tie % 0 -> false", NEVER),
            "SOURCE; HOLD 0; HOLD 0; retract -> 2; tie 2 0 -> false; tie 2 -1 -> false; SOURCE; tie 2 0 -> false",
            "SOURCE; HOLD 0 3; LIFT 1 1; tie 2 -1 -> false; fire 0 4; commit; value 2 -> 8");
        promise(3, "e is no event (nor -1)",
            ALL_KINDS + Runs.each("tie 4 % -> false", 4, 6, 13, 14, 15, 16, 23, "-2", "-3", 24, 25, 32, 256, 65536,
                "MIN", "MAX") + "fire 0 5; commit; value 4 -> 5",
            "SOURCE; HOLD 0 3; HOLD 0 4; SOURCE; retract -> 3; tie 1 3 -> false; tie 1 2 -> false; tie 1 1 -> false;"
            + "fire 0 5; commit; value 1 -> 5; leads 1 0 -> true");
        promise(3, "from e one comes to h over parts: refused, answers false",
            "SOURCE; HOLD 0 3; CHANGE 1; tie 1 2 -> false; leads 1 0 -> true; fire 0 5; commit -> 2; value 1 -> 5",
            "SOURCE; HOLD 0 3; TIMES 1 2; LIFT 2 2; SELECT 3 3 3; CHANGE 4; MAP 5 1; FILTER 6; MERGE 0 7; SNAP 8 1;"
            + "GATE 9 1; COUNT 10; SWITCH 1 0 11; ONCE 12;" + Runs.each("tie 1 % -> false", 5, 6, 7, 8, 9, 10, 11, 12, 13)
            + "DELAY 13; tie 1 14 -> true",
            "HOLD -1; HOLD -1; CHANGE 0; CHANGE 1; tie 0 3; tie 1 2 -> false; leads 1 2 -> false; leads 0 3 -> true",
            chainOfTies() + "tie 20 1 -> false; tie 20 21 -> false; tie 20 19 -> false; tie 0 21 -> true");
    }

    // HOLD 2i is tied to the CHANGE of HOLD 2i + 2: from 1 one comes to 20 over as many steps as 22 nodes have.
    private static String chainOfTies() {
        StringBuilder text = new StringBuilder();
        for (int i = 0; i < 11; i++) {
            text.append("HOLD -1; CHANGE ").append(2 * i).append(";");
        }
        for (int i = 0; i < 10; i++) {
            text.append("tie ").append(2 * i).append(" ").append(2 * i + 3).append(";");
        }
        return text.toString();
    }

    private static void retract() {
        promise(4, "Takes the last node away",
            "SOURCE; HOLD 0 3; retract -> 1; sort 1 -> BAD; sort 0 -> 1; value 1 -> 0; times 1 -> BAD",
            "SOURCE; MAP 0 1; fire 0 5; commit -> 2; retract -> 1; event 1 -> none; event 0 -> 5; fire 0 6; commit -> 1",
            "SOURCE; HOLD 0; retract -> 1; SOURCE -> 1; sort 1 -> 1; fire 1 3; commit -> 1; event 1 -> 3",
            "SOURCE; HOLD 0 3; retract -> 1; HOLD -1 4 -> 1; value 1 -> 4; leads 1 0 -> false; fire 0 5; commit; value 1 -> 4",
            "SOURCE; MAP 0 2; retract -> 1; COUNT 0; fire 0 5; commit -> 2; event 1 -> 5",
            "HOLD -1 0; CHANGE 0; SOURCE; SOURCE; tie 0 2; fire 2 5; commit -> 2; retract -> 3; fire 2 6; commit -> 2;"
            + "event 1 -> 6; value 0 -> 6");
        promise(4, "HOLDs with it as their event have none then",
            "SOURCE; HOLD 0 1; HOLD 0 2; MAP 0 1 1; tie 1 3; tie 2 3; fire 0 5; commit; value 1 -> 6; retract -> 3;"
            + "leads 1 0 -> false; leads 2 0 -> false; value 1 -> 6; value 2 -> 6; fire 0 7; commit -> 1; value 1 -> 6;"
            + "value 2 -> 6",
            "HOLD -1 1; SOURCE; tie 0 1; retract -> 1; SOURCE -> 1; leads 0 1 -> false; fire 1 5; commit -> 1; value 0 -> 1;"
            + "tie 0 1; fire 1 6; commit; value 0 -> 6",
            "SOURCE; HOLD 0 1; HOLD -1 2; SOURCE; tie 2 3; retract -> 3; fire 0 5; commit; value 1 -> 5; value 2 -> 2;"
            + "leads 1 0 -> true",
            "HOLD -1 1; SOURCE; tie 0 1; retract -> 1; HOLD -1 7 -> 1; commit -> 0; value 0 -> 1; leads 0 1 -> false",
            "HOLD -1 1; HOLD -1 2; CHANGE 1; tie 0 2; retract -> 2; CHANGE 0 -> 2; tie 1 2 -> true",
            "HOLD -1;".repeat(23) + "SOURCE;" + Runs.each("tie % 23", 0, 11, 22) + "retract -> 23; SOURCE -> 23; fire 23 4;"
            + "commit -> 1;" + Runs.each("value % -> 0; leads % 23 -> false", 0, 11, 22));
        StringBuilder down = new StringBuilder("SOURCE;".repeat(24));
        for (int left = 23; left >= 0; left--) {
            down.append("retract -> ").append(left).append(";");
        }
        promise(4, "Answers how many are left", down.toString(), "HOLD -1; retract -> 0; SOURCE; SOURCE; retract -> 1");
        promise(4, "BAD if there was none",
            "retract -> BAD; retract -> BAD; SOURCE -> 0", "SOURCE; retract -> 0; retract -> BAD; SOURCE -> 0; sort 1 -> BAD",
            down + "retract -> BAD; retract -> BAD; HOLD -1 6 -> 0; value 0 -> 6");
    }

    private static void fire() {
        promise(5, "Fires a value into a source",
            "SOURCE; fire 0 5 -> true; event 0 -> none; commit -> 1; event 0 -> 5",
            "SOURCE; fire 0 0 -> true; commit -> 1; fire 0 MIN -> true; commit; event 0 -> MIN; fire 0 MAX; commit;"
            + "event 0 -> MAX",
            "SOURCE; fire 0 5 -> true; fire 0 6 -> true; fire 0 -7 -> true; commit -> 1; event 0 -> -7; times 0 -> 1",
            "SOURCE;".repeat(24) + "fire 23 5 -> true; fire 0 6 -> true; commit -> 2; event 23 -> 5; event 0 -> 6");
        promise(5, "false if s is none",
            ALL_KINDS + Runs.each("fire % 5 -> false", 1, 2, 3, 4, 5, 6, 7, 8, 9, 10, 11, 12, 13, 14, 15, 23)
            + "commit -> 0; value 4 -> 1",
            "SOURCE;" + Runs.each("fire % 5 -> false", NEVER) + "fire 1 5 -> false; commit -> 0; event 0 -> none",
            "SOURCE; SOURCE; retract -> 1; fire 1 5 -> false; SOURCE; commit -> 0; HOLD -1; fire 2 5 -> false");
    }

    private static void commit() {
        String all = "SOURCE; HOLD 0 1;";
        promise(6, "answers the number of events that have a value in it",
            "commit -> 0; commit -> 0; transactions -> 2",
            "SOURCE; retract -> 0; commit -> 0",
            "HOLD -1 3; LIFT 0 0; TIMES 0 1 1; commit -> 0; value 1 -> 6",
            "SOURCE; MAP 0 1; MERGE 0 1; commit -> 0",
            "SOURCE;" + "MAP 0 1;".repeat(23) + "fire 0 1; commit -> 24; commit -> 0",
            "SOURCE;" + "HOLD 0 1;".repeat(23) + "fire 0 5; commit -> 1",
            "SOURCE;".repeat(24) + Runs.each("fire % 0", 0, 1, 2, 3, 4, 5, 6, 7, 8, 9, 10, 11, 12, 13, 14, 15, 16, 17, 18,
                19, 20, 21, 22, 23) + "commit -> 24; commit -> 0",
            "SOURCE; FILTER 0 5; SOURCE; fire 0 4; fire 2 4; commit -> 2; fire 0 5; commit -> 2",
            ALL_KINDS + "fire 0 5; commit -> 10; fire 0 6; commit -> 10; commit -> 1; commit -> 0");
        promise(6, "A transaction", "commit; transactions -> 1", all + "fire 0 7; commit; value 1 -> 7; transactions -> 1",
            all + "DELAY 0; fire 0 7; commit -> 1; commit -> 1; commit -> 0; value 1 -> 7; transactions -> 3");
    }

    private static void had() {
        promise(7, "Whether an event had a value in the latest transaction",
            "SOURCE; had 0 -> false; fire 0 0; had 0 -> false; commit; had 0 -> true; fire 0 1; had 0 -> true; commit;"
            + "commit; had 0 -> false",
            "SOURCE; FILTER 0 5; fire 0 4; commit; had 0 -> true; had 1 -> false");
        promise(7, "false for cells",
            ALL_KINDS + "fire 0 5; commit;" + Runs.each("had % -> false", CELLS),
            "SOURCE; fire 0 5; commit; retract -> 0; HOLD -1 3; had 0 -> false; commit; had 0 -> false",
            "HOLD -1 3; had 0 -> false");
        promise(7, "if there is no node n",
            "SOURCE; fire 0 5; commit;" + Runs.each("had % -> false", NEVER) + "had 1 -> false; had 23 -> false",
            "SOURCE; SOURCE; fire 1 5; commit; retract -> 1; had 1 -> false; retract -> 0; had 0 -> false",
            "SOURCE;".repeat(24) + "fire 23 1; commit; had 23 -> true;" + Runs.each("had % -> false", NEVER),
            Runs.each("had % -> false", NEVER) + "had 0 -> false");
    }

    private static void value() {
        promise(8, "An event's value in the latest transaction",
            "SOURCE; fire 0 5; commit; value 0 -> 5; fire 0 6; value 0 -> 5; commit; value 0 -> 6",
            "SOURCE; fire 0 MIN; commit; value 0 -> MIN");
        promise(8, "0 if it had none",
            "SOURCE; value 0 -> 0; fire 0 5; value 0 -> 0; commit; commit; value 0 -> 0",
            "SOURCE; MAP 0 1 9; FILTER 0 6; fire 0 5; commit; value 1 -> 14; value 2 -> 0; commit; value 1 -> 0",
            ALL_KINDS + "fire 0 5; commit; fire 0 6; commit; commit; commit;" + Runs.each("value % -> 0", EVENTS),
            ALL_KINDS + Runs.each("value % -> 0", EVENTS),
            "SOURCE; MAP 0 1 9; DELAY 0; SNAP 0 0 -> BAD; commit; value 1 -> 0; value 2 -> 0");
        promise(8, "a cell's value now",
            "SOURCE; HOLD 0 3; TIMES 1 2 1; LIFT 1 2; SELECT 1 2 3; value 1 -> 3; value 2 -> 7; value 3 -> 10; value 4 -> 7;"
            + "fire 0 5; value 1 -> 3; value 4 -> 7; commit; value 1 -> 5; value 2 -> 11; value 3 -> 16; value 4 -> 11; commit;"
            + "value 1 -> 5; value 4 -> 11");
        promise(8, "0 if there is no node n",
            "HOLD -1 3;" + Runs.each("value % -> 0", NEVER) + "value 1 -> 0; value 23 -> 0; value 0 -> 3",
            "SOURCE; HOLD 0 3; fire 0 5; commit; retract -> 1; value 1 -> 0; retract -> 0; value 0 -> 0",
            "HOLD -1 3;".repeat(24) + "value 23 -> 3;" + Runs.each("value % -> 0", NEVER),
            Runs.each("value % -> 0", NEVER) + "value 0 -> 0");
    }

    private static void times() {
        promise(9, "In how many transactions an event has had a value",
            "SOURCE; FILTER 0 5; times 0 -> 0; fire 0 5; fire 0 6; times 0 -> 0; commit; times 0 -> 1; times 1 -> 1; commit;"
            + "times 0 -> 1; fire 0 0; commit; times 0 -> 2; times 1 -> 1",
            "SOURCE; fire 0 1; commit; COUNT 0; ONCE 0; DELAY 0;" + "fire 0 1; commit;".repeat(5) + "times 0 -> 6;"
            + "times 1 -> 5; times 2 -> 1; times 3 -> 4",
            "SOURCE;" + "fire 0 1; commit;".repeat(255) + "times 0 -> 255");
        promise(9, "0 for cells",
            ALL_KINDS + Runs.each("times % -> 0", CELLS) + "fire 0 5; commit; fire 0 6; commit;"
            + Runs.each("times % -> 0", CELLS),
            "SOURCE; fire 0 5; commit; retract -> 0; HOLD -1 3; times 0 -> 0; commit; times 0 -> 0");
        promise(9, "BAD if there is no node n",
            "SOURCE; fire 0 5; commit;" + Runs.each("times % -> BAD", NEVER) + "times 1 -> BAD; times 23 -> BAD; times 0 -> 1",
            "SOURCE; SOURCE; fire 1 5; commit; retract -> 1; times 1 -> BAD; retract -> 0; times 0 -> BAD",
            "SOURCE;".repeat(24) + "times 23 -> 0;" + Runs.each("times % -> BAD", NEVER),
            Runs.each("times % -> BAD", NEVER) + "times 0 -> BAD");
    }

    private static void sort() {
        promise(10, "1 for an event", ALL_KINDS + Runs.each("sort % -> 1", EVENTS) + "fire 0 1; commit;"
            + Runs.each("sort % -> 1", EVENTS), "HOLD -1; retract -> 0; SOURCE; sort 0 -> 1");
        promise(10, "2 for a cell", ALL_KINDS + Runs.each("sort % -> 2", CELLS) + "fire 0 1; commit;"
            + Runs.each("sort % -> 2", CELLS), "SOURCE; retract -> 0; HOLD -1; sort 0 -> 2");
        promise(10, "BAD if there is no node n",
            "SOURCE; HOLD -1;" + Runs.each("sort % -> BAD", NEVER) + "sort 2 -> BAD; sort 23 -> BAD; sort 1 -> 2",
            "SOURCE; HOLD -1; retract -> 1; sort 1 -> BAD; retract -> 0; sort 0 -> BAD",
            "SOURCE;".repeat(24) + "sort 23 -> 1;" + Runs.each("sort % -> BAD", NEVER),
            Runs.each("sort % -> BAD", NEVER) + "sort 0 -> BAD");
    }

    private static void leads() {
        StringBuilder chain = new StringBuilder("SOURCE;");
        for (int n = 1; n < 24; n++) {
            chain.append("MAP ").append(n - 1).append(" 1;");
        }
        promise(11, "Whether from node n one comes to node m over parts",
            "SOURCE; HOLD 0; CHANGE 1; leads 1 0 -> true; leads 2 1 -> true; leads 2 0 -> true; leads 0 1 -> false;"
            + "leads 0 2 -> false; leads 1 2 -> false",
            chain + "leads 23 0 -> true; leads 23 22 -> true; leads 12 11 -> true; leads 0 23 -> false; leads 11 12 -> false",
            chainOfTies() + "leads 1 20 -> true; leads 0 21 -> true; leads 20 1 -> false; leads 21 0 -> false; tie 10 -1;"
            + "leads 1 20 -> false; leads 1 10 -> true; leads 12 20 -> true",
            "SOURCE; SOURCE; MERGE 0 1; MAP 0; MERGE 2 3; leads 4 1 -> true; leads 3 1 -> false; leads 4 0 -> true",
            "SOURCE; HOLD 0; SNAP 0 1; GATE 0 1; SWITCH 1 0 0; leads 2 1 -> false; leads 3 1 -> false; leads 4 1 -> false;"
            + "leads 2 0 -> true; leads 3 0 -> true; leads 4 0 -> true",
            "SOURCE; DELAY 0; MAP 1 1; leads 1 0 -> false; leads 2 0 -> false; leads 2 1 -> true",
            "SOURCE; HOLD -1; SNAP 0 1; MAP 2; leads 3 1 -> false; leads 3 0 -> true");
        promise(11, "(by at least one step)",
            ALL_KINDS + Runs.each("leads % % -> false", 0, 1, 2, 3, 4, 5, 6, 7, 8, 9, 10, 11, 12, 13, 14),
            "SOURCE; HOLD -1; SNAP 0 1; tie 1 2; leads 1 1 -> false; leads 2 2 -> false; leads 1 2 -> true",
            chainOfTies() + Runs.each("leads % % -> false", 0, 1, 10, 20, 21));
        promise(11, "false if one is not there",
            "SOURCE; MAP 0 1;" + Runs.each("leads % 0 -> false; leads 1 % -> false; leads % % -> false", NEVER)
            + "leads 2 0 -> false; leads 1 2 -> false; leads 23 0 -> false; leads 1 23 -> false; leads 2 2 -> false",
            "SOURCE; MAP 0 1; MAP 1 1; leads 2 0 -> true; retract -> 2; leads 2 0 -> false; leads 1 0 -> true",
            "HOLD -1; SOURCE; tie 0 1; leads 0 1 -> true; retract -> 1; leads 0 1 -> false; SOURCE; leads 0 1 -> false",
            chain + Runs.each("leads % 0 -> false; leads 23 % -> false", NEVER),
            Runs.each("leads % 0 -> false; leads 0 % -> false", NEVER) + "leads 0 0 -> false; leads 0 1 -> false");
    }

    private static void transactions() {
        promise(12, "The number of transactions",
            "transactions -> 0; transactions -> 0; commit; transactions -> 1; commit; transactions -> 2",
            "SOURCE; HOLD 0; tie 1 -1; fire 0 1; retract -> 1; node 15 -> BAD; level 0; transactions -> 0",
            "SOURCE; fire 0 1; commit; transactions -> 1; commit; transactions -> 2; retract -> 0; transactions -> 2;"
            + "retract -> BAD; commit; transactions -> 3",
            "commit;".repeat(511) + "transactions -> 511");
    }

    private static void level() {
        promise(13, "k outside 0..1: refused, answers false",
            Runs.each("level % -> false", "-1", "2", "3", "-2", "256", "257", "65536", "65537", "MIN", "MAX"));
        promise(13, "Else true", "level 0 -> true; level 1 -> true; level 1 -> true; level 0 -> true; level 0 -> true",
            "level 2 -> false; level 1 -> true; level -1 -> false; level 0 -> true");
        promise(13, "It shows in no answer",
            "HOLD -1 0; CHANGE 0; SOURCE; level 0; tie 0 2; fire 2 5; commit -> 2; level 1; fire 2 6; commit -> 2; SOURCE;"
            + "tie 0 3; level 0; fire 3 7; commit -> 2; level 1; retract -> 3; fire 2 9; commit -> 1; level 2 -> false;"
            + "tie 0 2; fire 2 9; commit -> 2; event 1 -> 9; transactions -> 5; times 1 -> 4");
    }
}
