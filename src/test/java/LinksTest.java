import java.util.NoSuchElementException;

/** Promises 8 to 14: setPoints, setBounds, score, decide, takeBack, link, openPairs. */
public final class LinksTest {
    private static final Class<?> ARGUMENT = IllegalArgumentException.class;
    private static final Class<?> STATE = IllegalStateException.class;
    private static final Class<?> ELEMENT = NoSuchElementException.class;
    private static final Class<?> UNSUPPORTED = UnsupportedOperationException.class;

    /** Two blocks; the addresses 0 and 1 are in block 0, the address 2 in block 1. */
    private static CensusLoom town() {
        CensusLoom loom = new CensusLoom();
        loom.addBlock();
        loom.addBlock();
        loom.addAddress(0);
        loom.addAddress(0);
        loom.addAddress(1);
        return loom;
    }

    private static int scoreBeside(int address, int name, int year, int otherAddress, int otherName, int otherYear) {
        CensusLoom loom = town();
        loom.addRecord('c', address, name, year);
        loom.addRecord('k', otherAddress, otherName, otherYear);
        Check.due("score is the same both ways", () -> loom.score(1, 0), loom.score(0, 1));
        return loom.score(0, 1);
    }

    private static void score() {
        Check.due("all the same", () -> scoreBeside(0, 123, 50, 0, 123, 50), 12);
        Check.due("only the name", () -> scoreBeside(0, 123, 50, 2, 123, 60), 5);
        Check.due("the name but for its last digit", () -> scoreBeside(0, 120, 50, 2, 129, 60), 2);
        Check.due("the names 9 and 0", () -> scoreBeside(0, 9, 50, 2, 0, 60), 2);
        Check.due("the names 9 and 10", () -> scoreBeside(0, 9, 50, 2, 10, 60), 0);
        Check.due("the name but for an earlier digit", () -> scoreBeside(0, 123, 50, 2, 133, 60), 0);
        Check.due("the names 123 and 23", () -> scoreBeside(0, 123, 50, 2, 23, 60), 0);
        Check.due("only the year", () -> scoreBeside(0, 0, 50, 2, 500, 50), 4);
        Check.due("the year less 1", () -> scoreBeside(0, 0, 50, 2, 500, 49), 2);
        Check.due("the year and 1", () -> scoreBeside(0, 0, 50, 2, 500, 51), 2);
        Check.due("the year and 2", () -> scoreBeside(0, 0, 50, 2, 500, 52), 0);
        Check.due("only the address", () -> scoreBeside(2, 0, 50, 2, 500, 60), 3);
        Check.due("only the block", () -> scoreBeside(0, 0, 50, 1, 500, 60), 1);
        Check.due("nothing", () -> scoreBeside(0, 0, 50, 2, 500, 60), 0);
        CensusLoom loom = town();
        loom.addRecord('c', 0, 0, 50);
        loom.addRecord('c', 2, 500, 60);
        Check.due("score(0, 2)", () -> loom.score(0, 2), ELEMENT);
        Check.due("score(2, 0)", () -> loom.score(2, 0), ELEMENT);
        Check.due("score(2, 2): no record comes first", () -> loom.score(2, 2), ELEMENT);
        Check.due("score(-1, 0)", () -> loom.score(-1, 0), ELEMENT);
        Check.due("score(1, 1)", () -> loom.score(1, 1), ARGUMENT);
        loom.join(1, 0);
        Check.due("the score follows a join", () -> loom.score(0, 1), 1);
        loom.split(0, 2);
        Check.due("the score follows a split", () -> loom.score(0, 1), 0);
    }

    private static void setPoints() {
        CensusLoom loom = town();
        loom.addRecord('c', 0, 120, 50);
        loom.addRecord('k', 1, 121, 51);
        Check.due("halves of 5, 4, 3", () -> loom.score(0, 1), 5);
        Check.due("setPoints n 9", () -> loom.setPoints('n', 9), 5);
        Check.due("half of 9", () -> loom.score(0, 1), 7);
        Check.due("setPoints n 0", () -> loom.setPoints('n', 0), 9);
        Check.due("setPoints y 7", () -> loom.setPoints('y', 7), 4);
        Check.due("half of 7", () -> loom.score(0, 1), 4);
        Check.due("setPoints p 1", () -> loom.setPoints('p', 1), 3);
        Check.due("half of 1", () -> loom.score(0, 1), 3);
        Check.due("setPoints p 1 again", () -> loom.setPoints('p', 1), 1);
        Check.due("no such part", () -> loom.setPoints('N', 3), ARGUMENT);
        Check.due("no such part 0", () -> loom.setPoints((char) 0, 3), ARGUMENT);
        Check.due("points 10", () -> loom.setPoints('n', 10), ARGUMENT);
        Check.due("points -1", () -> loom.setPoints('y', -1), ARGUMENT);
        Check.due("refused points change nothing", () -> loom.setPoints('n', 5), 0);
        Check.due("nor those for the year", () -> loom.setPoints('y', 4), 7);
    }

    private static void setBounds() {
        CensusLoom loom = town();
        loom.addRecord('c', 0, 100, 50);
        loom.addRecord('k', 1, 100, 50);
        loom.addRecord('k', 1, 101, 50);
        loom.addRecord('k', 1, 101, 51);
        Check.due("10 is at least 9", () -> loom.link(0, 1), 'y');
        Check.due("7 is at least 6", () -> loom.link(0, 2), '?');
        Check.due("5 is less than 6", () -> loom.link(0, 3), 'n');
        Check.due("setBounds(7, 10)", () -> loom.setBounds(7, 10), 9);
        Check.due("10 is at least 10", () -> loom.link(0, 1), 'y');
        Check.due("7 is at least 7", () -> loom.link(0, 2), '?');
        Check.due("setBounds(8, 11)", () -> loom.setBounds(8, 11), 10);
        Check.due("10 is less than 11", () -> loom.link(0, 1), '?');
        Check.due("7 is less than 8", () -> loom.link(0, 2), 'n');
        Check.due("setBounds(5, 5)", () -> loom.setBounds(5, 5), 11);
        Check.due("no pair is open between 5 and 5", () -> loom.link(0, 3), 'y');
        Check.due("setBounds(-1, 5)", () -> loom.setBounds(-1, 5), ARGUMENT);
        Check.due("setBounds(31, 31)", () -> loom.setBounds(31, 31), ARGUMENT);
        Check.due("setBounds(5, 31)", () -> loom.setBounds(5, 31), ARGUMENT);
        Check.due("setBounds(5, 4)", () -> loom.setBounds(5, 4), ARGUMENT);
        Check.due("refused bounds change nothing", () -> loom.link(0, 3), 'y');
        Check.due("setBounds(30, 30)", () -> loom.setBounds(30, 30), 5);
        Check.due("setBounds(0, 0)", () -> loom.setBounds(0, 0), 30);
        Check.due("setBounds(0, 30)", () -> loom.setBounds(0, 30), 0);
        Check.due("all are open", () -> loom.link(0, 3), '?');
    }

    private static void decide() {
        CensusLoom loom = town();
        loom.addRecord('c', 0, 0, 50);
        loom.addRecord('k', 2, 500, 90);
        loom.addRecord('k', 0, 0, 50);
        loom.addRecord('c', 2, 700, 70);
        Check.due("decide(0, 4)", () -> loom.decide(0, 4, true), ELEMENT);
        Check.due("decide(-1, 0)", () -> loom.decide(-1, 0, true), ELEMENT);
        Check.due("decide(4, 4)", () -> loom.decide(4, 4, true), ELEMENT);
        Check.due("decide(1, 1): the same comes before the check", () -> loom.decide(1, 1, true), ARGUMENT);
        Check.due("decide(0, 0)", () -> loom.decide(0, 0, false), ARGUMENT);
        Check.due("decide(1, 2)", () -> loom.decide(1, 2, true), UNSUPPORTED);
        Check.due("decide(2, 1)", () -> loom.decide(2, 1, false), UNSUPPORTED);
        Check.due("decide(0, 1, true)", () -> loom.decide(0, 1, true), 0);
        Check.due("linked in spite of the score", () -> loom.link(0, 1), 'y');
        Check.due("both ways", () -> loom.link(1, 0), 'y');
        Check.due("decide(1, 0, false)", () -> loom.decide(1, 0, false), 0);
        Check.due("in place of the earlier one", () -> loom.link(0, 1), 'n');
        Check.due("decide(2, 0, false)", () -> loom.decide(2, 0, false), 0);
        Check.due("apart in spite of the score", () -> loom.link(0, 2), 'n');
        loom.setBounds(30, 30);
        Check.due("a decision stands over the bounds", () -> loom.decide(0, 2, true), 0);
        Check.due("a decision stands over the bounds", () -> loom.link(0, 2), 'y');
    }

    /** Three people in each of two blocks, so that a table has cells with 3; then undone by decisions. */
    private static CensusLoom withThrees() {
        CensusLoom loom = town();
        for (int record = 0; record < 6; record++) {
            loom.addRecord('c', record < 3 ? 0 : 2, record * 100, record < 3 ? 30 : 80);
        }
        return loom;
    }

    private static void undoing() {
        CensusLoom loom = withThrees();
        Check.due("tell()", loom::tell, 0);
        Check.due("tell()", loom::tell, 1);
        Check.due("a decision that changes no count", () -> loom.decide(0, 1, false), 0);
        loom.addBlock();
        Check.due("undone by a block", () -> loom.stateOf(0), 'u');
        Check.due("tell()", loom::tell, 2);
        Check.due("tell()", loom::tell, 3);
        Check.due("a decision undoes both", () -> loom.decide(0, 1, true), 2);
        Check.due("undone", () -> loom.stateOf(2), 'u');
        Check.due("the same decision undoes nothing", () -> loom.decide(1, 0, true), 0);
        Check.due("takeBack undoes nothing more", () -> loom.takeBack(0, 1), 0);
        Check.due("and nothing is told again", () -> loom.stateOf(2), 'u');
        Check.due("tell()", loom::tell, 4);
        Check.due("a check record changes no count", () -> loom.addRecord('k', 0, 0, 30), 6);
        Check.due("nor does its match", () -> loom.decide(0, 6, true), 0);
        Check.due("table 4 stands", () -> loom.stateOf(4), 't');
        CensusLoom back = town();
        for (int record = 0; record < 8; record++) {
            back.addRecord('c', record < 4 ? 0 : 2, record * 100, record < 4 ? 30 : 80);
        }
        back.decide(0, 1, true);
        Check.due("tell()", back::tell, 0);
        Check.due("takeBack undoes", () -> back.takeBack(1, 0), 1);
        Check.due("undone", () -> back.stateOf(0), 'u');
    }

    private static void takeBack() {
        CensusLoom loom = town();
        loom.addRecord('c', 0, 0, 50);
        loom.addRecord('k', 0, 0, 50);
        loom.addRecord('k', 0, 0, 50);
        Check.due("takeBack(0, 3)", () -> loom.takeBack(0, 3), ELEMENT);
        Check.due("takeBack(3, 0)", () -> loom.takeBack(3, 0), ELEMENT);
        Check.due("takeBack(0, -1)", () -> loom.takeBack(0, -1), ELEMENT);
        Check.due("takeBack(0, 0)", () -> loom.takeBack(0, 0), STATE);
        Check.due("takeBack(1, 2)", () -> loom.takeBack(1, 2), STATE);
        Check.due("takeBack(0, 1)", () -> loom.takeBack(0, 1), STATE);
        loom.decide(0, 1, false);
        Check.due("apart", () -> loom.link(0, 1), 'n');
        Check.due("no decision on the others", () -> loom.takeBack(0, 2), STATE);
        Check.due("takeBack(1, 0)", () -> loom.takeBack(1, 0), 0);
        Check.due("linked by the score again", () -> loom.link(0, 1), 'y');
        Check.due("only once", () -> loom.takeBack(0, 1), STATE);
    }

    private static void link() {
        CensusLoom loom = town();
        loom.addRecord('k', 0, 0, 50);
        loom.addRecord('k', 0, 0, 50);
        loom.addRecord('c', 0, 1, 50);
        Check.due("two of the check", () -> loom.link(0, 1), 'y');
        Check.due("2 + 4 + 3 is the upper bound", () -> loom.link(2, 0), 'y');
        Check.due("link(0, 3)", () -> loom.link(0, 3), ELEMENT);
        Check.due("link(3, 3)", () -> loom.link(3, 3), ELEMENT);
        Check.due("link(-1, 2)", () -> loom.link(-1, 2), ELEMENT);
        Check.due("link(2, 2)", () -> loom.link(2, 2), ARGUMENT);
    }

    private static void openPairs() {
        CensusLoom loom = town();
        loom.addRecord('c', 0, 0, 50);
        loom.addRecord('k', 1, 1, 50);
        loom.addRecord('k', 0, 3, 50);
        loom.addRecord('c', 1, 2, 50);
        // The scores: 0-1 7, 0-2 9, 0-3 7, 1-2 7, 1-3 9, 2-3 7.
        Check.due("all but two of the check", loom::openPairs, 3);
        loom.decide(0, 1, false);
        Check.due("a decided pair is not open", loom::openPairs, 2);
        loom.setBounds(0, 30);
        Check.due("all but the decided and the check", loom::openPairs, 4);
        loom.takeBack(0, 1);
        Check.due("with that one again", loom::openPairs, 5);
        loom.setBounds(7, 7);
        Check.due("none between equal bounds", loom::openPairs, 0);
    }

    public static void main(String[] args) {
        score();
        setPoints();
        setBounds();
        decide();
        undoing();
        takeBack();
        link();
        openPairs();
        Check.end();
    }
}
