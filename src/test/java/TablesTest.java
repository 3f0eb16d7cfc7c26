import java.util.NoSuchElementException;

/** Promises 23 to 35: tell and all that is asked of tables. */
public final class TablesTest {
    private static final Class<?> INDEX = IndexOutOfBoundsException.class;
    private static final Class<?> ARGUMENT = IllegalArgumentException.class;
    private static final Class<?> STATE = IllegalStateException.class;
    private static final Class<?> ELEMENT = NoSuchElementException.class;
    private static final Class<?> UNSUPPORTED = UnsupportedOperationException.class;
    private static final int[] YEARS = {10, 30, 50, 90};

    /** A block for each row, with one address, and as many census records by groups as the row says; none is linked. */
    private static CensusLoom withCounts(int[][] counts) {
        CensusLoom loom = new CensusLoom();
        int name = 0;
        for (int block = 0; block < counts.length; block++) {
            loom.addBlock();
            loom.addAddress(block);
            for (int group = 0; group < 4; group++) {
                for (int person = 0; person < counts[block][group]; person++) {
                    loom.addRecord('c', block, name, YEARS[group]);
                    name += 20;
                }
            }
        }
        return loom;
    }

    private static String line(CensusLoom loom, int table) {
        StringBuilder text = new StringBuilder();
        for (int index = 0; index < loom.lineLength(table); index++) {
            text.append(loom.lineAt(table, index));
        }
        return text.toString();
    }

    private static void tells(String what, int[][] counts, String line) {
        CensusLoom loom = withCounts(counts);
        if (line == null) {
            Check.due(what, loom::tell, UNSUPPORTED);
            Check.due(what + ": no table is there", () -> loom.stateOf(0), ELEMENT);
            return;
        }
        Check.due(what, loom::tell, 0);
        Check.due(what + ": the line", () -> line(loom, 0), line);
        int holes = line.length() - line.replace("x", "").length();
        Check.due(what + ": holes", () -> loom.holes(0), holes);
        Check.due(what + ": found", () -> loom.found(0), 0);
        Check.due(what + ": found by ways", () -> loom.foundByWays(0), 0);
        Check.due(what + ": safe", loom::isSafe, true);
        Check.due(what + ": told", () -> loom.stateOf(0), 't');
        String[] cells = line.split("[,;]");
        for (int cell = 0; cell < cells.length; cell++) {
            int block = cell / 4;
            int group = cell % 4;
            boolean hidden = cells[cell].equals("x");
            Object shown = hidden ? UNSUPPORTED : counts[block][group];
            Check.due(what + ": isHidden", () -> loom.isHidden(0, block, group), hidden);
            Check.due(what + ": cell", () -> loom.cell(0, block, group), shown);
        }
    }

    private static void choosing() {
        tells("the document's example", new int[][] {{0, 1, 4, 2}, {3, 2, 12, 1}}, "0,x,4,x;3,x,12,x;");
        tells("nobody", new int[][] {{0, 0, 0, 0}, {0, 0, 0, 0}}, "0,0,0,0;0,0,0,0;");
        tells("nothing small", new int[][] {{3, 4, 0, 0}, {10, 0, 0, 11}}, "3,4,0,0;10,0,0,11;");
        tells("one small: none helps at first", new int[][] {{1, 5, 4, 0}, {3, 6, 4, 0}}, "x,5,x,0;x,6,x,0;");
        tells("the one that helps, not the least", new int[][] {{1, 1, 3, 0}, {1, 9, 3, 0}}, "x,x,3,0;x,x,3,0;");
        tells("the very first cell helps", new int[][] {{4, 1, 3, 0}, {1, 1, 3, 0}}, "x,x,3,0;x,x,3,0;");
        tells("the first of the least that help", new int[][] {{1, 1, 1, 0}, {1, 1, 5, 4}, {4, 0, 1, 1}, {0, 0, 1, 1}},
                "x,x,x,0;x,x,5,x;4,0,x,x;0,0,x,x;");
        tells("the first of the least of all", new int[][] {{2, 4, 0, 0}, {2, 4, 4, 0}, {0, 0, 0, 0}},
                "x,x,0,0;x,x,4,0;0,0,0,0;");
        tells("a longer closed way", new int[][] {{1, 1, 0, 0}, {0, 1, 1, 0}, {1, 0, 1, 0}},
                "x,x,0,0;0,x,x,0;x,0,x,0;");
        tells("one small alone", new int[][] {{1, 0, 0, 0}, {0, 0, 0, 0}}, null);
        tells("one small beside a greater one", new int[][] {{1, 3, 0, 0}, {0, 0, 0, 0}}, null);
        tells("an empty cell is never hidden", new int[][] {{1, 1, 0, 0}, {1, 0, 0, 0}}, null);
        tells("a 3 is not hidden by itself", new int[][] {{3, 2, 2, 0}, {3, 2, 2, 0}}, "3,x,x,0;3,x,x,0;");
        tells("six blocks: the least of all, as long as none helps",
                new int[][] {{1, 0, 0, 5}, {1, 0, 0, 5}, {0, 0, 0, 0}, {0, 3, 3, 0}, {0, 3, 3, 0}, {0, 0, 0, 0}},
                "x,0,0,x;x,0,0,x;0,0,0,0;0,x,x,0;0,x,x,0;0,0,0,0;");
    }

    private static void telling() {
        CensusLoom loom = new CensusLoom();
        Check.due("tell without blocks", loom::tell, STATE);
        loom.addBlock();
        Check.due("tell with one block", loom::tell, STATE);
        loom.addBlock();
        for (int table = 0; table < 8; table++) {
            Check.due("tell " + table, loom::tell, table);
        }
        Check.due("a 9th table", loom::tell, STATE);
        loom.addAddress(0);
        loom.addRecord('c', 0, 1, 1);
        Check.due("a 9th table that cannot be told", loom::tell, STATE);
        Check.due("table 7", () -> loom.stateOf(7), 'u');
        Check.due("table 8", () -> loom.stateOf(8), ELEMENT);
    }

    private static void undone() {
        CensusLoom loom = withCounts(new int[][] {{3, 0, 0, 0}, {0, 4, 0, 0}});
        loom.tell();
        loom.addAddress(0);
        loom.addRecord('k', 0, 0, 10);
        loom.join(0, 1);
        Check.due("undone by a join", () -> loom.stateOf(0), 'u');
        loom.split(1, 2);
        Check.due("undone for ever", () -> loom.stateOf(0), 'u');
        loom.tell();
        loom.addAddress(2);
        loom.join(0, 1);
        loom.addRecord('k', 1, 0, 10);
        loom.setPoints('n', 6);
        loom.setBounds(6, 10);
        Check.due("told as long as all counts are the same", () -> loom.stateOf(1), 't');
        loom.setBounds(5, 7);
        Check.due("undone by bounds", () -> loom.stateOf(1), 'u');
        loom.setBounds(6, 10);
        Check.due("and not told again", () -> loom.stateOf(1), 'u');
        loom.tell();
        loom.setPoints('y', 8);
        Check.due("undone by points", () -> loom.stateOf(2), 'u');
        loom.setPoints('y', 4);
        loom.tell();
        loom.addRecord('c', 0, 0, 10);
        Check.due("a double changes no count", () -> loom.stateOf(3), 't');
        loom.addRecord('c', 0, 990, 10);
        Check.due("undone by a record", () -> loom.stateOf(3), 'u');
        loom.tell();
        loom.split(1, 0);
        Check.due("undone by a split", () -> loom.stateOf(4), 'u');
        loom.tell();
        loom.addBlock();
        Check.due("undone by a block", () -> loom.stateOf(5), 'u');
        Check.due("all is safe behind it", loom::isSafe, true);
        Check.due("stateOf(-1)", () -> loom.stateOf(-1), ELEMENT);
        Check.due("stateOf(6)", () -> loom.stateOf(6), ELEMENT);
    }

    private static void asking() {
        CensusLoom loom = withCounts(new int[][] {{0, 1, 4, 2}, {3, 2, 12, 1}});
        loom.tell();
        loom.addBlock();
        loom.addRecord('c', 0, 990, 50);
        Check.due("the table is undone", () -> loom.stateOf(0), 'u');
        Check.due("and keeps its cell", () -> loom.cell(0, 0, 2), 4);
        Check.due("and its line", () -> line(loom, 0), "0,x,4,x;3,x,12,x;");
        Check.due("lineLength", () -> loom.lineLength(0), 17);
        Check.due("blockSum(0, 0)", () -> loom.blockSum(0, 0), 7);
        Check.due("blockSum(0, 1)", () -> loom.blockSum(0, 1), 18);
        Check.due("groupSum(0, 0)", () -> loom.groupSum(0, 0), 3);
        Check.due("groupSum(0, 1)", () -> loom.groupSum(0, 1), 3);
        Check.due("groupSum(0, 2)", () -> loom.groupSum(0, 2), 16);
        Check.due("groupSum(0, 3)", () -> loom.groupSum(0, 3), 3);
        Check.due("a block that came later: isHidden", () -> loom.isHidden(0, 2, 0), INDEX);
        Check.due("a block that came later: cell", () -> loom.cell(0, 2, 0), INDEX);
        Check.due("a block that came later: blockSum", () -> loom.blockSum(0, 2), INDEX);
        Check.due("a block that came later: isAtRisk", () -> loom.isAtRisk(0, 2, 0), INDEX);
        loom.tell();
        Check.due("the next table has it", () -> loom.blockSum(1, 2), 0);
    }

    private static void wrongInputs() {
        CensusLoom loom = withCounts(new int[][] {{0, 1, 4, 2}, {3, 2, 12, 1}});
        loom.tell();
        for (int table : new int[] {-1, 1, 8, Integer.MIN_VALUE, Integer.MAX_VALUE}) {
            Check.due("isHidden", () -> loom.isHidden(table, 9, 9), ELEMENT);
            Check.due("cell", () -> loom.cell(table, 9, 9), ELEMENT);
            Check.due("blockSum", () -> loom.blockSum(table, 9), ELEMENT);
            Check.due("groupSum", () -> loom.groupSum(table, 9), ELEMENT);
            Check.due("holes", () -> loom.holes(table), ELEMENT);
            Check.due("isAtRisk", () -> loom.isAtRisk(table, 9, 9), ELEMENT);
            Check.due("found", () -> loom.found(table), ELEMENT);
            Check.due("foundByWays", () -> loom.foundByWays(table), ELEMENT);
            Check.due("lineLength", () -> loom.lineLength(table), ELEMENT);
            Check.due("lineAt", () -> loom.lineAt(table, -1), ELEMENT);
            Check.due("stateOf", () -> loom.stateOf(table), ELEMENT);
        }
        for (int block : new int[] {-1, 2, 6, Integer.MIN_VALUE, Integer.MAX_VALUE}) {
            Check.due("isHidden", () -> loom.isHidden(0, block, 9), INDEX);
            Check.due("cell", () -> loom.cell(0, block, 9), INDEX);
            Check.due("blockSum", () -> loom.blockSum(0, block), INDEX);
            Check.due("isAtRisk", () -> loom.isAtRisk(0, block, 9), INDEX);
        }
        for (int group : new int[] {-1, 4, Integer.MIN_VALUE, Integer.MAX_VALUE}) {
            Check.due("isHidden", () -> loom.isHidden(0, 1, group), ARGUMENT);
            Check.due("cell", () -> loom.cell(0, 1, group), ARGUMENT);
            Check.due("groupSum", () -> loom.groupSum(0, group), ARGUMENT);
            Check.due("isAtRisk", () -> loom.isAtRisk(0, 1, group), ARGUMENT);
        }
        Check.due("lineAt(0, -1)", () -> loom.lineAt(0, -1), INDEX);
        Check.due("lineAt(0, 16)", () -> loom.lineAt(0, 16), ';');
        Check.due("lineAt(0, 17)", () -> loom.lineAt(0, 17), INDEX);
        Check.due("lineAt(0, highest)", () -> loom.lineAt(0, Integer.MAX_VALUE), INDEX);
    }

    private static void risks() {
        CensusLoom loom = withCounts(new int[][] {{0, 1, 4, 2}, {3, 2, 12, 1}});
        loom.tell();
        Check.due("on a closed way", () -> loom.isAtRisk(0, 0, 1), false);
        Check.due("on a closed way", () -> loom.isAtRisk(0, 1, 3), false);
        Check.due("of 0", () -> loom.isAtRisk(0, 0, 0), UNSUPPORTED);
        Check.due("of 3", () -> loom.isAtRisk(0, 1, 0), UNSUPPORTED);
        CensusLoom chain = withCounts(new int[][] {{1, 1, 3, 0}, {1, 9, 3, 0}});
        chain.tell();
        Check.due("without a closed way", () -> chain.isAtRisk(0, 0, 0), true);
        Check.due("without a closed way", () -> chain.isAtRisk(0, 1, 0), true);
        Check.due("hidden, but not small", () -> chain.isAtRisk(0, 1, 1), UNSUPPORTED);
        chain.addRecord('c', 1, 990, 10);
        chain.addRecord('c', 1, 970, 10);
        Check.due("by the table's counts, not the present ones", () -> chain.isAtRisk(0, 1, 0), true);
    }

    public static void main(String[] args) {
        choosing();
        telling();
        undone();
        asking();
        wrongInputs();
        risks();
        Check.end();
    }
}
