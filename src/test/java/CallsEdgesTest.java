import java.util.NoSuchElementException;

/**
 * "What it is": "An object is used for at most 512 calls after it has been made". Each run has 512 calls on one object,
 * of which the last ones are looked at too.
 */
public final class CallsEdgesTest {
    private static final int CALLS = 512;
    private static final int TOP = Integer.MAX_VALUE;
    private static final Class<?> INDEX = IndexOutOfBoundsException.class;
    private static final Class<?> ARGUMENT = IllegalArgumentException.class;
    private static final Class<?> STATE = IllegalStateException.class;
    private static final Class<?> ELEMENT = NoSuchElementException.class;

    /** The same call again and again takes what there is room for, and each further one is refused. */
    private static void oneCallAgain() {
        CensusLoom blocks = new CensusLoom();
        for (int call = 0; call < CALLS; call++) {
            Check.due("2: call " + call, blocks::addBlock, call < 6 ? (Object) call : STATE);
        }
        CensusLoom addresses = Towns.blocks(1);
        for (int call = 0; call < CALLS - 1; call++) {
            Check.due("3: call " + call, () -> addresses.addAddress(0), call < 20 ? (Object) call : STATE);
        }
        CensusLoom records = Towns.addresses(1, 0);
        for (int call = 0; call < CALLS - 2; call++) {
            int name = call;
            Check.due("6: call " + call, () -> records.addRecord('c', 0, name, 20), call < 40 ? (Object) call : STATE);
        }
        CensusLoom tables = Towns.blocks(2);
        for (int call = 0; call < CALLS - 2; call++) {
            Check.due("23: call " + call, tables::tell, call < 8 ? (Object) call : STATE);
        }
    }

    /** Refused calls use nothing up: behind 511 of them, the last call answers as the first one would. */
    private static void refusedCalls() {
        CensusLoom loom = new CensusLoom();
        for (int call = 0; call < CALLS - 1; call += 7) {
            Check.due("23: no table", loom::tell, STATE);
            Check.due("3: no block", () -> loom.addAddress(TOP), INDEX);
            Check.due("6: no address", () -> loom.addRecord('c', 0, 0, 0), INDEX);
            Check.due("8: no points", () -> loom.setPoints('n', TOP), ARGUMENT);
            Check.due("9: no bounds", () -> loom.setBounds(TOP, TOP), ARGUMENT);
            Check.due("11: no record", () -> loom.decide(0, 1, true), ELEMENT);
            Check.due("33: no table", () -> loom.lineLength(0), ELEMENT);
        }
        Check.due("2: the 512th call", loom::addBlock, 0);
    }

    /** Decisions in turn on full records, with all tables: no more than these are undone. */
    private static void decisionsInTurn() {
        CensusLoom loom = Towns.counts(Towns.row(20, 0, 0, 0), Towns.row(0, 0, 0, 20));
        for (int table = 0; table < 8; table++) {
            loom.tell();
        }
        int used = 4 + 40 + 8;
        for (int call = used; call < CALLS - 2; call += 2) {
            Check.due("11: call " + call, () -> loom.decide(38, 39, true), call == used ? 8 : 0);
            Check.due("12: call " + call, () -> loom.takeBack(39, 38), 0);
        }
        Check.due("18: the 511th call", () -> loom.count(1, 3), 20);
        Check.due("35: the 512th call", loom::isSafe, true);
    }

    /** Joins there and back, then one there. */
    private static void joinsInTurn() {
        CensusLoom loom = Towns.full();
        int used = 78;
        Check.due("5: the 79th call", () -> loom.join(0, 1), 5);
        for (int call = used + 1; call < CALLS - 2; call += 2) {
            Check.due("5: to an empty block", () -> loom.join(1, 5), 12);
            Check.due("5: and back", () -> loom.join(5, 1), 12);
        }
        Check.due("35: the last call", loom::isSafe, true);
    }

    /** Points and bounds in turn, asked behind each of them. */
    private static void pointsInTurn() {
        CensusLoom loom = Towns.town();
        loom.addRecord('c', 0, 100, 50);
        loom.addRecord('k', 0, 100, 50);
        int before = 3;
        for (int call = 7; call < CALLS - 2; call += 3) {
            int points = call % 10;
            int due = before;
            Check.due("8: call " + call, () -> loom.setPoints('p', points), due);
            Check.due("10: behind call " + call, () -> loom.score(0, 1), 9 + points);
            Check.due("22: behind call " + call, loom::meanScore, 9.0 + points);
            before = points;
        }
    }

    public static void main(String[] args) {
        oneCallAgain();
        refusedCalls();
        decisionsInTurn();
        joinsInTurn();
        pointsInTurn();
        Check.end();
    }
}
