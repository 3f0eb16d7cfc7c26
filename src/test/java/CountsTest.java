import java.util.NoSuchElementException;

/** Promises 15 to 22: isDouble, matchOf, matches, count, countAnew, estimate, doubleShare, meanScore. */
public final class CountsTest {
    private static final Class<?> INDEX = IndexOutOfBoundsException.class;
    private static final Class<?> ARGUMENT = IllegalArgumentException.class;
    private static final Class<?> STATE = IllegalStateException.class;
    private static final Class<?> ELEMENT = NoSuchElementException.class;
    private static final Class<?> ARITHMETIC = ArithmeticException.class;

    private static CensusLoom town() {
        CensusLoom loom = new CensusLoom();
        loom.addBlock();
        loom.addBlock();
        loom.addAddress(0);
        loom.addAddress(0);
        loom.addAddress(1);
        return loom;
    }

    private static void isDouble() {
        CensusLoom loom = town();
        loom.addRecord('k', 0, 0, 50);
        loom.addRecord('c', 0, 0, 50);
        loom.addRecord('c', 0, 0, 50);
        loom.addRecord('c', 2, 500, 90);
        Check.due("linked to the check only", () -> loom.isDouble(1), false);
        Check.due("linked to an earlier one", () -> loom.isDouble(2), true);
        Check.due("linked to none", () -> loom.isDouble(3), false);
        Check.due("of the check", () -> loom.isDouble(0), false);
        loom.decide(2, 3, true);
        Check.due("linked to a double only", () -> loom.isDouble(3), false);
        loom.decide(1, 2, false);
        Check.due("no double any more", () -> loom.isDouble(2), false);
        Check.due("then the next one is a double", () -> loom.isDouble(3), true);
        loom.takeBack(2, 1);
        Check.due("a double again", () -> loom.isDouble(2), true);
        Check.due("and the next one is none", () -> loom.isDouble(3), false);
        Check.due("isDouble(4)", () -> loom.isDouble(4), ELEMENT);
        Check.due("isDouble(-1)", () -> loom.isDouble(-1), ELEMENT);
        loom.setBounds(13, 13);
        Check.due("no double by a higher bound", () -> loom.isDouble(2), false);
    }

    private static void matching() {
        CensusLoom loom = town();
        loom.addRecord('c', 0, 100, 50);
        loom.addRecord('c', 1, 900, 10);
        loom.addRecord('k', 1, 100, 50);
        loom.addRecord('k', 0, 100, 50);
        // 0-2 scores 10 and 0-3 scores 12; 1-2 scores 3 and is decided.
        Check.due("the higher score first", () -> loom.matchOf(0), 3);
        Check.due("of the other side", () -> loom.matchOf(3), 0);
        Check.due("no match", () -> loom.matchOf(2), STATE);
        Check.due("one match", loom::matches, 1);
        loom.decide(1, 2, true);
        Check.due("a decided pair matches too", () -> loom.matchOf(2), 1);
        Check.due("two matches", loom::matches, 2);
        loom.decide(1, 3, true);
        Check.due("a lower score does not take it", () -> loom.matchOf(3), 0);
        loom.decide(0, 3, false);
        Check.due("then the next one", () -> loom.matchOf(0), 2);
        Check.due("and what is left", () -> loom.matchOf(3), 1);
        Check.due("matchOf(4)", () -> loom.matchOf(4), ELEMENT);
        Check.due("matchOf(-1)", () -> loom.matchOf(-1), ELEMENT);
    }

    private static void matchingOfEqualScores() {
        CensusLoom loom = town();
        loom.addRecord('k', 0, 100, 50);
        loom.addRecord('c', 2, 100, 50);
        loom.addRecord('k', 0, 100, 50);
        loom.addRecord('c', 2, 900, 60);
        loom.decide(3, 0, true);
        loom.decide(3, 2, true);
        Check.due("of the same score the lower check record", () -> loom.matchOf(1), 0);
        Check.due("what is left for the second", () -> loom.matchOf(3), 2);
        loom.decide(1, 0, false);
        Check.due("now the other check record", () -> loom.matchOf(1), 2);
        Check.due("now the first check record", () -> loom.matchOf(3), 0);
        CensusLoom two = town();
        two.addRecord('c', 2, 100, 50);
        two.addRecord('c', 2, 500, 90);
        two.addRecord('k', 0, 700, 20);
        two.decide(1, 2, true);
        two.decide(0, 2, true);
        Check.due("of the same score the lower census record", () -> two.matchOf(2), 0);
        Check.due("the higher one has none", () -> two.matchOf(1), STATE);
        two.addRecord('c', 2, 100, 50);
        two.decide(3, 2, true);
        two.decide(0, 2, false);
        Check.due("a double has no match", () -> two.matchOf(3), STATE);
        Check.due("but the counted one has", () -> two.matchOf(1), 2);
    }

    /**
     * Terms, "The linked pairs": as many as there can be, 400. Twenty census records that are kept apart, each linked
     * to each of twenty check records.
     */
    private static void mostPairs() {
        CensusLoom loom = town();
        for (int record = 0; record < 40; record++) {
            loom.addRecord(record < 20 ? 'c' : 'k', 0, record * 20, 50);
        }
        for (int record = 0; record < 20; record++) {
            for (int other = 0; other < record; other++) {
                loom.decide(other, record, false);
            }
        }
        loom.setBounds(0, 0);
        Check.due("most matches", loom::matches, 20);
        for (int record = 0; record < 20; record++) {
            int asked = record;
            Check.due("match of " + record, () -> loom.matchOf(asked), record + 20);
            Check.due("match of " + (record + 20), () -> loom.matchOf(asked + 20), record);
        }
        Check.due("twenty times twenty by twenty", loom::estimate, 20L);
    }

    private static void counts() {
        CensusLoom loom = town();
        int[] years = {0, 17, 18, 39, 40, 64, 65, 120};
        for (int record = 0; record < years.length; record++) {
            loom.addRecord('c', 0, record * 100, years[record]);
        }
        loom.addRecord('c', 2, 950, 30);
        loom.addRecord('k', 2, 980, 30);
        loom.addRecord('c', 0, 0, 0);
        for (int group = 0; group < 4; group++) {
            int asked = group;
            Check.due("count(0, " + group + ")", () -> loom.count(0, asked), 2);
            Check.due("countAnew(0, " + group + ")", () -> loom.countAnew(0, asked), 2);
            Check.due("count(1, " + group + ")", () -> loom.count(1, asked), group == 1 ? 1 : 0);
            Check.due("countAnew(1, " + group + ")", () -> loom.countAnew(1, asked), group == 1 ? 1 : 0);
        }
        loom.join(1, 0);
        Check.due("a join moves counts", () -> loom.count(0, 1), 3);
        Check.due("a join moves counts anew", () -> loom.countAnew(0, 1), 3);
        Check.due("and leaves none", () -> loom.count(1, 1), 0);
        loom.split(0, 2);
        Check.due("a split moves counts", () -> loom.count(2, 1), 1);
        Check.due("count(3, 0)", () -> loom.count(3, 0), INDEX);
        Check.due("count(-1, 0)", () -> loom.count(-1, 0), INDEX);
        Check.due("count(3, 4): no block comes first", () -> loom.count(3, 4), INDEX);
        Check.due("count(0, 4)", () -> loom.count(0, 4), ARGUMENT);
        Check.due("count(0, -1)", () -> loom.count(0, -1), ARGUMENT);
        Check.due("countAnew(3, 0)", () -> loom.countAnew(3, 0), INDEX);
        Check.due("countAnew(-1, -1)", () -> loom.countAnew(-1, -1), INDEX);
        Check.due("countAnew(0, 4)", () -> loom.countAnew(0, 4), ARGUMENT);
        Check.due("countAnew(0, -1)", () -> loom.countAnew(0, -1), ARGUMENT);
    }

    private static void numbers() {
        CensusLoom loom = town();
        Check.due("no share of nobody", loom::doubleShare, ARITHMETIC);
        Check.due("no estimate without matches", loom::estimate, ARITHMETIC);
        Check.due("no mean without matches", loom::meanScore, ARITHMETIC);
        loom.addRecord('k', 0, 100, 50);
        Check.due("no share of check records", loom::doubleShare, ARITHMETIC);
        loom.addRecord('c', 0, 100, 50);
        Check.due("no doubles", loom::doubleShare, 0.0f);
        Check.due("one times one by one", loom::estimate, 1L);
        Check.due("the mean of one", loom::meanScore, 12.0);
        loom.addRecord('c', 0, 100, 50);
        loom.addRecord('c', 2, 300, 20);
        Check.due("one of three", loom::doubleShare, 1.0f / 3.0f);
        Check.due("a double counts in no estimate", loom::estimate, 2L);
        loom.addRecord('k', 2, 301, 21);
        loom.addRecord('k', 2, 700, 70);
        loom.decide(3, 4, true);
        loom.addRecord('c', 2, 800, 80);
        // 3 counted and 3 of the check by 2 matches; the scores are 12 and 2 + 2 + 3.
        Check.due("rounded down", loom::estimate, 4L);
        Check.due("the mean of two", loom::meanScore, 9.5);
        Check.due("one of four", loom::doubleShare, 0.25f);
        loom.setBounds(30, 30);
        Check.due("decided pairs stay", loom::estimate, 12L);
        Check.due("and their mean", loom::meanScore, 7.0);
        loom.takeBack(3, 4);
        Check.due("no matches again", loom::estimate, ARITHMETIC);
        Check.due("no mean again", loom::meanScore, ARITHMETIC);
        Check.due("no matches", loom::matches, 0);
    }

    public static void main(String[] args) {
        isDouble();
        matching();
        matchingOfEqualScores();
        mostPairs();
        counts();
        numbers();
        Check.end();
    }
}
