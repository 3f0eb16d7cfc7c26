import java.util.NoSuchElementException;

/**
 * The boundary cases of "Tables", "Undone tables", "Lines" and of the promises 23 to 35: a function for each sentence,
 * which stands above it, and the promise's number in each call's name.
 */
public final class TablesEdgesTest {
    private static final Class<?> INDEX = IndexOutOfBoundsException.class;
    private static final Class<?> ARGUMENT = IllegalArgumentException.class;
    private static final Class<?> STATE = IllegalStateException.class;
    private static final Class<?> ELEMENT = NoSuchElementException.class;
    private static final Class<?> UNSUPPORTED = UnsupportedOperationException.class;
    private static final int LOW = Integer.MIN_VALUE;
    private static final int TOP = Integer.MAX_VALUE;
    private static final Views EMPTY = new Views(CensusLoom::new);
    private static final Views SOME = new Views(Towns::some);
    private static final Views FULL = new Views(Towns::full);

    private interface OfCell {
        Object on(CensusLoom loom, int table, int block, int group);
    }

    private interface OfTable {
        Object on(CensusLoom loom, int table);
    }

    private static int[] row(int... counts) {
        return Towns.row(counts);
    }

    /** A table of these counts has this line, and then is safe, as told; there is none if the line is null. */
    private static void tells(String sentence, String line, int[]... counts) {
        CensusLoom loom = Towns.counts(counts);
        if (line == null) {
            new Views(() -> Towns.counts(counts)).refuse("23: " + sentence, CensusLoom::tell, UNSUPPORTED);
            return;
        }
        Check.due("23: " + sentence, loom::tell, 0);
        Check.due("34: " + sentence, () -> Towns.line(loom, 0), line);
        Check.due("33: " + sentence, () -> loom.lineLength(0), line.length());
        Check.due("29: " + sentence, () -> loom.holes(0), line.length() - line.replace("x", "").length());
        Check.due("31: " + sentence, () -> loom.found(0), 0);
        Check.due("32: " + sentence, () -> loom.foundByWays(0), 0);
        Check.due("35: " + sentence, loom::isSafe, true);
        Check.due("24: " + sentence, () -> loom.stateOf(0), 't');
    }

    /** Promise 23, "Throws IllegalStateException if there are less than 2 blocks". */
    private static void promise23Blocks() {
        EMPTY.refuse("23: no block", CensusLoom::tell, STATE);
        new Views(() -> Towns.blocks(1)).refuse("23: one block", CensusLoom::tell, STATE);
        new Views(() -> Towns.counts(row(3, 3, 3, 3))).refuse("23: one block with people", CensusLoom::tell, STATE);
        CensusLoom two = Towns.blocks(2);
        Check.due("23: two blocks", two::tell, 0);
        CensusLoom six = Towns.blocks(6);
        Check.due("23: six blocks", six::tell, 0);
        Check.due("27: the last of six", () -> six.blockSum(0, 5), 0);
        CensusLoom joined = Towns.town();
        joined.join(0, 1);
        Check.due("23: two, one of them joined", joined::tell, 0);
    }

    private static CensusLoom told(int tables, int[]... counts) {
        CensusLoom loom = Towns.counts(counts);
        for (int table = 0; table < tables; table++) {
            loom.tell();
        }
        return loom;
    }

    /** Promise 23, "Throws IllegalStateException if .. 8 tables were told"; Terms, "at most 8 tables are told". */
    private static void promise23EightTables() {
        CensusLoom seven = told(7, row(3, 0, 0, 0), row(0, 0, 0, 4));
        Check.due("23: the 8th table", seven::tell, 7);
        Check.due("24: it is told", () -> seven.stateOf(7), 't');
        new Views(() -> told(8, row(3, 0, 0, 0), row(0, 0, 0, 4))).refuse("23: a 9th", CensusLoom::tell, STATE);
        FULL.refuse("23: a 9th on a full object", CensusLoom::tell, STATE);
        new Views(() -> undoneEight()).refuse("23: a 9th, though all 8 are undone", CensusLoom::tell, STATE);
    }

    private static CensusLoom undoneEight() {
        CensusLoom loom = told(8, row(3, 0, 0, 0), row(0, 0, 0, 4));
        loom.addBlock();
        return loom;
    }

    /** Promise 23, "Throws UnsupportedOperationException if the table cannot be told": then no number is used up. */
    private static void promise23CannotBeTold() {
        tells("a 1 alone", null, row(1, 0, 0, 0), row(0, 0, 0, 0));
        tells("a 2 alone", null, row(0, 0, 0, 0), row(0, 0, 0, 2));
        tells("a 1 and a greater one in a block", null, row(1, 3, 0, 0), row(0, 0, 0, 0));
        tells("two that share neither", null, row(1, 0, 0, 0), row(0, 1, 0, 0));
        tells("three of four corners, the fourth is 0", null, row(1, 1, 0, 0), row(1, 0, 0, 0));
        tells("the least of all takes what would help", null, row(0, 4, 1, 0), row(3, 3, 3, 3));
        CensusLoom loom = Towns.counts(row(1, 1, 0, 0), row(1, 0, 0, 0));
        Check.due("23: not yet", loom::tell, UNSUPPORTED);
        Check.due("23: still not", loom::tell, UNSUPPORTED);
        loom.addRecord('c', 1, 900, 30);
        Check.due("23: with the fourth corner, the number 0", loom::tell, 0);
        Check.due("34: all are hidden", () -> Towns.line(loom, 0), "x,x,0,0;x,x,0,0;");
        CensusLoom later = told(7, row(3, 3, 0, 0), row(0, 0, 0, 0));
        later.addRecord('c', 1, 990, 90);
        Check.due("23: the 8th cannot be told", later::tell, UNSUPPORTED);
        later.addRecord('c', 1, 970, 90);
        later.addRecord('c', 1, 950, 90);
        Check.due("23: now it can", later::tell, 7);
    }

    /** Promise 23: less than 2 blocks, or 8 tables, comes before a table that cannot be told. */
    private static void promise23Pair() {
        Views one = new Views(() -> Towns.counts(row(1, 0, 0, 0)));
        one.refuse("23: one block before a 1 alone", CensusLoom::tell, STATE);
        Views eight = new Views(TablesEdgesTest::eightAndUntellable);
        eight.refuse("23: 8 tables before a 1 alone", CensusLoom::tell, STATE);
    }

    private static CensusLoom eightAndUntellable() {
        CensusLoom loom = told(8, row(0, 0, 0, 0), row(0, 0, 0, 0));
        loom.addRecord('c', 0, 0, 0);
        return loom;
    }

    /** Terms, "Cells with the count 1 or 2 are hidden; those with the count 0 never are". */
    private static void termsWhichAreHidden() {
        tells("only 0", "0,0,0,0;0,0,0,0;", row(0, 0, 0, 0), row(0, 0, 0, 0));
        tells("1 is hidden", "x,x,0,0;x,x,0,0;", row(1, 1, 0, 0), row(1, 1, 0, 0));
        tells("2 is hidden", "x,x,0,0;x,x,0,0;", row(2, 2, 0, 0), row(2, 2, 0, 0));
        tells("3 is not", "3,3,0,0;3,3,0,0;", row(3, 3, 0, 0), row(3, 3, 0, 0));
        tells("1 and 2 are, beside a 3", "x,x,x,3;x,x,x,3;", row(1, 2, 1, 3), row(1, 2, 1, 3));
        tells("all cells of two blocks", "x,x,x,x;x,x,x,x;", row(1, 1, 1, 1), row(2, 2, 2, 2));
        tells("nothing, in six blocks", "0,0,0,0;0,0,0,0;0,0,0,0;0,0,0,0;0,0,0,0;0,0,0,0;",
                row(0, 0, 0, 0), row(0, 0, 0, 0), row(0, 0, 0, 0), row(0, 0, 0, 0), row(0, 0, 0, 0), row(0, 0, 0, 0));
        tells("all 24 cells of six blocks", "x,x,x,x;x,x,x,x;x,x,x,x;x,x,x,x;x,x,x,x;x,x,x,x;",
                row(1, 1, 1, 1), row(1, 1, 1, 1), row(1, 2, 2, 1), row(1, 2, 2, 1), row(1, 2, 2, 1), row(1, 1, 1, 1));
        tells("the last cells alone", "0,0,0,0;0,0,0,0;0,0,0,0;0,0,0,0;0,0,x,x;0,0,x,x;",
                row(0, 0, 0, 0), row(0, 0, 0, 0), row(0, 0, 0, 0), row(0, 0, 0, 0), row(0, 0, 1, 1), row(0, 0, 1, 1));
    }

    /** Terms, "if no closed way leads through it .. and comes to no cell twice": ways of 4, 6 and 8 cells. */
    private static void termsClosedWays() {
        tells("a way of 4 cells", "x,0,0,x;0,0,0,0;x,0,0,x;", row(1, 0, 0, 1), row(0, 0, 0, 0), row(1, 0, 0, 1));
        tells("a way of 6 cells", "x,x,0,0;0,x,x,0;x,0,x,0;", row(1, 1, 0, 0), row(0, 1, 1, 0), row(1, 0, 1, 0));
        tells("a way of 8 cells", "x,x,0,0;0,x,x,0;0,0,x,x;x,0,0,x;",
                row(1, 1, 0, 0), row(0, 1, 1, 0), row(0, 0, 1, 1), row(1, 0, 0, 1));
        tells("a way of 8 cells with blocks in another order", "x,0,x,0;0,x,0,x;0,0,0,0;x,x,0,0;0,0,0,0;0,0,x,x;",
                row(2, 0, 2, 0), row(0, 2, 0, 2), row(0, 0, 0, 0), row(2, 2, 0, 0), row(0, 0, 0, 0), row(0, 0, 2, 2));
        tells("two ways apart", "x,x,0,0;x,x,0,0;0,0,x,x;0,0,x,x;",
                row(1, 1, 0, 0), row(1, 1, 0, 0), row(0, 0, 1, 1), row(0, 0, 1, 1));
        tells("a bridge between two ways is found, and no other cell helps", null,
                row(1, 1, 1, 0), row(1, 1, 0, 0), row(0, 0, 1, 1), row(0, 0, 1, 1));
        tells("but with one that does", "x,x,x,0;x,x,0,x;0,0,x,x;0,0,x,x;",
                row(1, 1, 1, 0), row(1, 1, 0, 5), row(0, 0, 1, 1), row(0, 0, 1, 1));
    }

    /** Terms, "the first of these, by blocks and then by groups, is looked at". */
    private static void termsFirstFound() {
        tells("by blocks before groups", "x,x,3,x;x,x,3,3;x,3,3,x;", row(3, 3, 3, 1), row(2, 1, 3, 3), row(1, 3, 3, 1));
        tells("not the last one", "x,x,x,x;x,x,x,x;x,x,4,4;", row(1, 4, 4, 4), row(1, 1, 1, 1), row(1, 1, 4, 4));
        tells("not the least one", "x,x,x,x;0,x,x,0;x,x,0,x;", row(2, 1, 1, 1), row(0, 3, 1, 0), row(2, 3, 0, 3));
        tells("anew behind each one that was hidden", "x,0,x,x;0,0,x,x;x,0,0,x;",
                row(3, 0, 3, 3), row(0, 0, 3, 2), row(1, 0, 0, 2));
    }

    /** Terms, "of the cells that .. are greater than 0 and whose hiding would make this one found no more". */
    private static void termsHelping() {
        tells("the one that helps, not the least", "x,4,x,x;x,4,x,x;", row(1, 4, 1, 1), row(1, 4, 4, 1));
        tells("the one that helps, though it is greater", "x,x,3,0;x,x,3,0;", row(1, 1, 3, 0), row(1, 9, 3, 0));
        tells("the first cell helps", "x,x,3,0;x,x,3,0;", row(4, 1, 3, 0), row(1, 1, 3, 0));
        tells("the last cell helps", "3,0,x,x;3,0,x,x;", row(3, 0, 1, 1), row(3, 0, 1, 4));
        tells("the least of those that help", "x,x,4,4;x,x,x,x;x,x,x,x;",
                row(3, 1, 4, 4), row(1, 1, 3, 1), row(1, 1, 1, 1));
        tells("by a longer way", "x,x,0,0;0,x,x,0;x,0,x,0;", row(1, 1, 0, 0), row(0, 1, 1, 0), row(1, 0, 7, 0));
    }

    /** Terms, "or, if there are none of these, of all that are not hidden and greater than 0". */
    private static void termsAllThatAreShown() {
        tells("none helps at first", "x,5,x,0;x,6,x,0;", row(1, 5, 4, 0), row(3, 6, 4, 0));
        tells("until all are hidden", "x,x,x,x;x,x,x,x;", row(1, 3, 1, 1), row(3, 1, 3, 3));
        tells("far from the found one", "x,x,x,x;x,x,x,x;", row(1, 1, 4, 4), row(4, 4, 3, 3));
        tells("in another part of the table", "x,0,0,x;x,0,0,x;0,0,0,0;0,x,x,0;0,x,x,0;0,0,0,0;",
                row(1, 0, 0, 5), row(1, 0, 0, 5), row(0, 0, 0, 0), row(0, 3, 3, 0), row(0, 3, 3, 0), row(0, 0, 0, 0));
    }

    /** Terms, "the one with the least count is hidden, of several the first one by blocks and then by groups". */
    private static void termsLeastAndFirst() {
        tells("the first of several that help", "x,x,x,x;x,4,x,x;4,x,x,4;",
                row(1, 4, 1, 4), row(4, 4, 1, 1), row(4, 1, 1, 4));
        tells("by blocks before groups", "x,x,x,x;x,x,x,x;", row(1, 1, 3, 3), row(3, 3, 3, 1));
        tells("the first of all", "x,x,0,0;x,x,4,0;0,0,0,0;", row(2, 4, 0, 0), row(2, 4, 4, 0), row(0, 0, 0, 0));
    }

    private static void noSuchTables(String promise, OfTable asked) {
        EMPTY.refuse(promise + ": no table 0", loom -> asked.on(loom, 0), ELEMENT);
        for (int table : new int[] {LOW, -1, 2, 7, 8, TOP}) {
            SOME.refuse(promise + ": no table " + table, loom -> asked.on(loom, table), ELEMENT);
        }
        for (int table : new int[] {LOW, -1, 8, TOP}) {
            FULL.refuse(promise + ": no table " + table + " of 8", loom -> asked.on(loom, table), ELEMENT);
        }
    }

    /** Promises 24 to 34, "Throws NoSuchElementException if there is no such table". */
    private static void promises24To34Tables() {
        noSuchTables("24", (loom, table) -> loom.stateOf(table));
        noSuchTables("25", (loom, table) -> loom.isHidden(table, 0, 0));
        noSuchTables("26", (loom, table) -> loom.cell(table, 0, 0));
        noSuchTables("27", (loom, table) -> loom.blockSum(table, 0));
        noSuchTables("28", (loom, table) -> loom.groupSum(table, 0));
        noSuchTables("29", (loom, table) -> loom.holes(table));
        noSuchTables("30", (loom, table) -> loom.isAtRisk(table, 0, 1));
        noSuchTables("31", (loom, table) -> loom.found(table));
        noSuchTables("32", (loom, table) -> loom.foundByWays(table));
        noSuchTables("33", (loom, table) -> loom.lineLength(table));
        noSuchTables("34", (loom, table) -> loom.lineAt(table, 0));
    }

    /** Promises 25 to 30 and 34: no such table comes before no such block, group or index. */
    private static void promises25To34TableFirst() {
        noSuchTables("25, and no block", (loom, table) -> loom.isHidden(table, 6, 0));
        noSuchTables("25, and no group", (loom, table) -> loom.isHidden(table, 0, 4));
        noSuchTables("25, and neither", (loom, table) -> loom.isHidden(table, -1, -1));
        noSuchTables("26, and no block", (loom, table) -> loom.cell(table, 6, 0));
        noSuchTables("26, and no group", (loom, table) -> loom.cell(table, 0, 4));
        noSuchTables("26, and neither", (loom, table) -> loom.cell(table, -1, -1));
        noSuchTables("27, and no block", (loom, table) -> loom.blockSum(table, 6));
        noSuchTables("27, and no block below", (loom, table) -> loom.blockSum(table, -1));
        noSuchTables("28, and no group", (loom, table) -> loom.groupSum(table, 4));
        noSuchTables("28, and no group below", (loom, table) -> loom.groupSum(table, -1));
        noSuchTables("30, and no block", (loom, table) -> loom.isAtRisk(table, 6, 0));
        noSuchTables("30, and no group", (loom, table) -> loom.isAtRisk(table, 0, 4));
        noSuchTables("30, and neither", (loom, table) -> loom.isAtRisk(table, -1, -1));
        noSuchTables("34, and no index", (loom, table) -> loom.lineAt(table, 99));
        noSuchTables("34, and no index below", (loom, table) -> loom.lineAt(table, -1));
    }

    private static void noSuchBlocks(String promise, OfCell asked, int group) {
        // In some(), the table 0 has two blocks and the table 1 has three, and there are three now.
        for (int block : new int[] {LOW, -1, 2, 3, 6, TOP}) {
            SOME.refuse(promise + ": table 0 has no block " + block, loom -> asked.on(loom, 0, block, group), INDEX);
        }
        for (int block : new int[] {LOW, -1, 3, 4, 6, TOP}) {
            SOME.refuse(promise + ": table 1 has no block " + block, loom -> asked.on(loom, 1, block, group), INDEX);
        }
        // In full(), the table 2 has two blocks, the table 3 three, the table 7 six.
        FULL.refuse(promise + ": table 2 has no block 2", loom -> asked.on(loom, 2, 2, group), INDEX);
        FULL.refuse(promise + ": table 3 has no block 3", loom -> asked.on(loom, 3, 3, group), INDEX);
        FULL.refuse(promise + ": table 7 has no block 6", loom -> asked.on(loom, 7, 6, group), INDEX);
        FULL.refuse(promise + ": table 7 has no block -1", loom -> asked.on(loom, 7, -1, group), INDEX);
    }

    /**
     * Promises 25, 26, 27 and 30, "Throws IndexOutOfBoundsException if the table has no such block": also if there is
     * one now; and it comes before the group, and before what is hidden or is neither 1 nor 2.
     */
    private static void promises25To30Blocks() {
        for (int group : new int[] {0, 3, 4, -1}) {
            noSuchBlocks("25, group " + group, (loom, table, block, of) -> loom.isHidden(table, block, of), group);
            noSuchBlocks("26, group " + group, (loom, table, block, of) -> loom.cell(table, block, of), group);
            noSuchBlocks("30, group " + group, (loom, table, block, of) -> loom.isAtRisk(table, block, of), group);
        }
        noSuchBlocks("27", (loom, table, block, of) -> loom.blockSum(table, block), 0);
    }

    private static void noSuchGroups(String promise, OfCell asked) {
        for (int group : new int[] {LOW, -1, 4, TOP}) {
            SOME.refuse(promise + ": no group " + group, loom -> asked.on(loom, 0, 0, group), ARGUMENT);
            SOME.refuse(promise + ": no group " + group + " of the last block", loom -> asked.on(loom, 1, 2, group),
                    ARGUMENT);
            FULL.refuse(promise + ": no group " + group + " of 6 blocks", loom -> asked.on(loom, 7, 5, group),
                    ARGUMENT);
        }
    }

    /**
     * Promises 25, 26, 28 and 30, "Throws IllegalArgumentException if the group is out of range"; "the group, 0 to 3".
     */
    private static void promises25To30Groups() {
        noSuchGroups("25", (loom, table, block, group) -> loom.isHidden(table, block, group));
        noSuchGroups("26", (loom, table, block, group) -> loom.cell(table, block, group));
        noSuchGroups("28", (loom, table, block, group) -> loom.groupSum(table, group));
        noSuchGroups("30", (loom, table, block, group) -> loom.isAtRisk(table, block, group));
    }

    /** Promises 25 to 30: each cell of a table, from the first to the last one. */
    private static void promises25To30Cells() {
        // The table 1 of some() has the line 0,x,4,x;3,x,0,x;0,0,0,0; and the counts 0 1 4 2, 3 2 0 1.
        int[][] counts = {{0, 1, 4, 2}, {3, 2, 0, 1}, {0, 0, 0, 0}};
        CensusLoom loom = Towns.some();
        for (int cell = 0; cell < 12; cell++) {
            int block = cell / 4;
            int group = cell % 4;
            int count = counts[block][group];
            boolean isSmall = count == 1 || count == 2;
            String name = block + " " + group;
            Check.due("25: " + name, () -> loom.isHidden(1, block, group), isSmall);
            Check.due("26: " + name, () -> loom.cell(1, block, group), isSmall ? UNSUPPORTED : (Object) count);
            Check.due("30: " + name, () -> loom.isAtRisk(1, block, group), isSmall ? false : UNSUPPORTED);
            if (isSmall) {
                SOME.refuse("26: a hidden cell " + name, town -> town.cell(1, block, group), UNSUPPORTED);
            } else {
                SOME.refuse("30: neither 1 nor 2: " + name, town -> town.isAtRisk(1, block, group), UNSUPPORTED);
            }
        }
        int[] blockSums = {7, 6, 0};
        int[] groupSums = {3, 3, 4, 3};
        for (int i = 0; i < 3; i++) {
            int block = i;
            Check.due("27: block " + block, () -> loom.blockSum(1, block), blockSums[block]);
        }
        for (int i = 0; i < 4; i++) {
            int group = i;
            Check.due("28: group " + group, () -> loom.groupSum(1, group), groupSums[group]);
        }
    }

    /** Promise 26, "Throws UnsupportedOperationException if it is hidden": a greater one, and in an undone table. */
    private static void promise26Hidden() {
        CensusLoom loom = Towns.counts(row(1, 1, 3, 0), row(1, 9, 3, 0));
        loom.tell();
        Check.due("25: the 9 is hidden", () -> loom.isHidden(0, 1, 1), true);
        Check.due("26: the 9 is not told", () -> loom.cell(0, 1, 1), UNSUPPORTED);
        Check.due("26: the 3 is", () -> loom.cell(0, 1, 2), 3);
        Check.due("26: the 0 is", () -> loom.cell(0, 1, 3), 0);
        Check.due("27: the sum is, with all that is hidden", () -> loom.blockSum(0, 1), 13);
        Check.due("28: the sum is, with all that is hidden", () -> loom.groupSum(0, 1), 10);
        loom.addBlock();
        Check.due("24: undone", () -> loom.stateOf(0), 'u');
        Check.due("26: not told in an undone table either", () -> loom.cell(0, 1, 1), UNSUPPORTED);
        Check.due("25: still hidden", () -> loom.isHidden(0, 0, 0), true);
        Check.due("26: the 3 is still there", () -> loom.cell(0, 0, 2), 3);
        FULL.refuse("26: a hidden cell of an undone table", town -> town.cell(0, 0, 0), UNSUPPORTED);
    }

    /** Promises 27 and 28: sums of nobody and of all 40. */
    private static void promises27And28Extremes() {
        CensusLoom all = told(1, row(0, 0, 0, 0), row(0, 0, 0, 40));
        Check.due("27: all 40", () -> all.blockSum(0, 1), 40);
        Check.due("27: nobody", () -> all.blockSum(0, 0), 0);
        Check.due("28: all 40", () -> all.groupSum(0, 3), 40);
        Check.due("28: nobody", () -> all.groupSum(0, 0), 0);
        Check.due("26: all 40", () -> all.cell(0, 1, 3), 40);
        CensusLoom six = told(1, row(3, 0, 0, 0), row(3, 0, 0, 0), row(3, 0, 0, 0), row(3, 0, 0, 0), row(3, 0, 0, 0),
                row(3, 0, 0, 4));
        Check.due("28: over all six blocks", () -> six.groupSum(0, 0), 18);
        Check.due("28: in the last block alone", () -> six.groupSum(0, 3), 4);
        Check.due("27: the last of six blocks", () -> six.blockSum(0, 5), 7);
    }

    /** Promise 30, "Returns whether a cell would be found in a table if only the cells with 1 or 2 were hidden". */
    private static void promise30Risks() {
        CensusLoom chain = told(1, row(1, 1, 3, 0), row(1, 9, 3, 0));
        Check.due("30: without the 9", () -> chain.isAtRisk(0, 0, 0), true);
        Check.due("30: without the 9", () -> chain.isAtRisk(0, 0, 1), true);
        Check.due("30: without the 9", () -> chain.isAtRisk(0, 1, 0), true);
        Check.due("30: the 9 itself", () -> chain.isAtRisk(0, 1, 1), UNSUPPORTED);
        CensusLoom two = told(1, row(2, 2, 3, 0), row(2, 2, 3, 0));
        Check.due("30: 2 on a closed way", () -> two.isAtRisk(0, 1, 1), false);
        Check.due("30: 3 is not small", () -> two.isAtRisk(0, 1, 2), UNSUPPORTED);
        Check.due("30: 0 is not small", () -> two.isAtRisk(0, 1, 3), UNSUPPORTED);
        CensusLoom bridge = told(1, row(1, 1, 1, 0), row(1, 1, 0, 5), row(0, 0, 1, 1), row(0, 0, 1, 1));
        Check.due("30: a bridge between two closed ways", () -> bridge.isAtRisk(0, 0, 2), true);
        Check.due("30: before the bridge", () -> bridge.isAtRisk(0, 0, 0), false);
        Check.due("30: behind the bridge", () -> bridge.isAtRisk(0, 3, 3), false);
        bridge.addBlock();
        Check.due("30: an undone table has it too", () -> bridge.isAtRisk(0, 0, 2), true);
        FULL.refuse("30: a 3 in a full object", loom -> loom.isAtRisk(7, 0, 0), UNSUPPORTED);
        FULL.refuse("30: a 0 in a full object", loom -> loom.isAtRisk(7, 5, 3), UNSUPPORTED);
    }

    /** Terms, "A table is told, 't', until .. one of the counts becomes another one": each cell of it, by one. */
    private static void termsEachCountUndoes() {
        for (int cell = 0; cell < 8; cell++) {
            CensusLoom loom = Towns.counts(row(3, 4, 3, 4), row(4, 3, 4, 3));
            loom.tell();
            Check.due("24: told", () -> loom.stateOf(0), 't');
            loom.addRecord('k', cell / 4, 900, Towns.YEARS[cell % 4]);
            Check.due("24: not undone by the check", () -> loom.stateOf(0), 't');
            loom.addRecord('c', cell / 4, 920, Towns.YEARS[cell % 4]);
            Check.due("24: undone by one more", () -> loom.stateOf(0), 'u');
        }
        int first = 0;
        int[] counts = {3, 4, 3, 4, 4, 3, 4, 3};
        for (int count : counts) {
            CensusLoom loom = Towns.counts(row(3, 4, 3, 4), row(4, 3, 4, 3));
            loom.tell();
            int record = first;
            Check.due("11: one less undoes", () -> loom.decide(record, record + 1, true), 1);
            Check.due("24: undone by one less", () -> loom.stateOf(0), 'u');
            first += count;
        }
    }

    /** Terms, "until the number of blocks .. becomes another one": by addBlock and by split, though no count does. */
    private static void termsBlocksUndo() {
        CensusLoom added = told(2, row(3, 0, 0, 0), row(3, 0, 0, 0));
        added.addBlock();
        Check.due("24: undone by addBlock", () -> added.stateOf(0), 'u');
        Check.due("24: the other one too", () -> added.stateOf(1), 'u');
        Check.due("23: the next table", added::tell, 2);
        Check.due("24: it is told", () -> added.stateOf(2), 't');
        CensusLoom split = told(1, row(3, 0, 0, 0), row(3, 0, 0, 0));
        split.addAddress(0);
        Check.due("24: not by an address", () -> split.stateOf(0), 't');
        split.split(0, 2);
        Check.due("24: undone by a split that moves nobody", () -> split.stateOf(0), 'u');
        CensusLoom joined = told(1, row(3, 0, 0, 0), row(0, 0, 0, 0));
        joined.join(1, 0);
        Check.due("24: not by a join that moves nobody", () -> joined.stateOf(0), 't');
        joined.join(0, 1);
        Check.due("24: undone by a join that moves people", () -> joined.stateOf(0), 'u');
    }

    /** Terms, "then it is undone, 'u', for ever": also if all counts are as they were. */
    private static void termsForEver() {
        CensusLoom loom = told(1, row(3, 0, 0, 0), row(0, 0, 0, 0));
        loom.join(0, 1);
        loom.join(1, 0);
        Check.due("18: the count is as it was", () -> loom.count(0, 0), 3);
        Check.due("24: undone for ever, joined and back", () -> loom.stateOf(0), 'u');
        loom.tell();
        loom.decide(0, 1, true);
        loom.takeBack(0, 1);
        Check.due("24: undone for ever, decided and back", () -> loom.stateOf(1), 'u');
        loom.tell();
        loom.setBounds(0, 0);
        loom.setBounds(6, 9);
        Check.due("24: undone for ever, by bounds and back", () -> loom.stateOf(2), 'u');
        loom.tell();
        loom.setPoints('p', 9);
        loom.setPoints('p', 3);
        Check.due("24: undone for ever, by points and back", () -> loom.stateOf(3), 'u');
        loom.tell();
        Check.due("24: the last one is told", () -> loom.stateOf(4), 't');
        Check.due("24: the first one is not", () -> loom.stateOf(0), 'u');
        Check.due("35: all is safe", loom::isSafe, true);
    }

    /** Terms, "behind some call": two changes within one call that leave all counts as they were undo nothing. */
    private static void termsBehindSomeCall() {
        CensusLoom loom = Towns.town();
        for (int record = 0; record < 5; record++) {
            loom.addRecord('c', record < 4 ? 0 : 2, record * 20, 30 + record);
        }
        loom.addRecord('c', 0, 900, 10);
        loom.setPoints('y', 0);
        loom.setPoints('p', 0);
        loom.decide(0, 1, true);
        loom.decide(1, 2, true);
        loom.decide(3, 4, false);
        // 1 is a double and 2 is none; if 0 and 1 are apart, 2 is one in place of 1, in the same cell.
        Check.due("18: three of four", () -> loom.count(0, 1), 3);
        loom.join(1, 0);
        loom.addBlock();
        loom.decide(3, 4, true);
        loom.decide(4, 5, true);
        Check.due("23: cannot be told with a 1", loom::tell, UNSUPPORTED);
        loom.decide(0, 5, true);
        Check.due("23: tell", loom::tell, 0);
        Check.due("15: 1 is a double", () -> loom.isDouble(1), true);
        Check.due("11: 2 is one in place of 1", () -> loom.decide(0, 1, false), 0);
        Check.due("15: 1 is none", () -> loom.isDouble(1), false);
        Check.due("15: 2 is one", () -> loom.isDouble(2), true);
        Check.due("24: no count is another one", () -> loom.stateOf(0), 't');
    }

    /** Terms, "with ',' between two, and ';' behind the last one; a cell is its count, or 'x' if it is hidden". */
    private static void termsLines() {
        tells("the document's example", "0,x,4,x;3,x,12,x;", row(0, 1, 4, 2), row(3, 2, 12, 1));
        tells("9 has one digit", "9,0,0,0;0,0,0,9;", row(9, 0, 0, 0), row(0, 0, 0, 9));
        tells("10 has two", "10,0,0,0;0,0,0,10;", row(10, 0, 0, 0), row(0, 0, 0, 10));
        tells("40", "0,0,0,40;0,0,0,0;", row(0, 0, 0, 40), row(0, 0, 0, 0));
        tells("x for a count of two digits too", "x,x,0,0;x,x,0,0;", row(1, 1, 0, 0), row(1, 12, 0, 0));
        tells("three blocks", "0,0,0,0;3,0,0,0;0,0,0,3;", row(0, 0, 0, 0), row(3, 0, 0, 0), row(0, 0, 0, 3));
    }

    /** Promise 33: the least length, of two blocks, and lengths of six; promise 29: none and all 24. */
    private static void promises29And33Extremes() {
        Check.due("33: two empty blocks", () -> told(1, row(0, 0, 0, 0), row(0, 0, 0, 0)).lineLength(0), 16);
        Check.due("29: two empty blocks", () -> told(1, row(0, 0, 0, 0), row(0, 0, 0, 0)).holes(0), 0);
        CensusLoom six = Towns.blocks(6);
        six.tell();
        Check.due("33: six empty blocks", () -> six.lineLength(0), 48);
        Check.due("29: six empty blocks", () -> six.holes(0), 0);
        CensusLoom wide = told(1, row(10, 10, 0, 0), row(0, 0, 10, 10));
        Check.due("33: four of two digits", () -> wide.lineLength(0), 20);
        CensusLoom hidden = told(1, row(1, 1, 1, 1), row(1, 1, 1, 1), row(1, 1, 1, 1), row(1, 1, 1, 1),
                row(1, 1, 1, 1), row(1, 1, 1, 1));
        Check.due("33: six blocks, all hidden", () -> hidden.lineLength(0), 48);
        Check.due("29: six blocks, all hidden", () -> hidden.holes(0), 24);
        Check.due("31: none is found", () -> hidden.found(0), 0);
        Check.due("32: none is found by ways", () -> hidden.foundByWays(0), 0);
        Check.due("29: an undone table of a full object", () -> Towns.full().holes(0), 8);
        Check.due("29: the last table of a full object", () -> Towns.full().holes(7), 12);
    }

    /** Promise 34, "Throws IndexOutOfBoundsException if there is no such index"; "the index, from 0". */
    private static void promise34Indexes() {
        // The lines of some() have 16 and 24 characters.
        for (int index : new int[] {LOW, -1, 16, 17, TOP}) {
            SOME.refuse("34: no index " + index + " of 16", loom -> loom.lineAt(0, index), INDEX);
        }
        for (int index : new int[] {LOW, -1, 24, 25, TOP}) {
            SOME.refuse("34: no index " + index + " of 24", loom -> loom.lineAt(1, index), INDEX);
        }
        FULL.refuse("34: no index 48 of 48", loom -> loom.lineAt(7, 48), INDEX);
        FULL.refuse("34: no index -1 of 48", loom -> loom.lineAt(7, -1), INDEX);
        CensusLoom loom = Towns.some();
        Check.due("34: the first of 16", () -> loom.lineAt(0, 0), '0');
        Check.due("34: the last but one of 16", () -> loom.lineAt(0, 14), 'x');
        Check.due("34: the last of 16", () -> loom.lineAt(0, 15), ';');
        Check.due("34: the last of 24", () -> loom.lineAt(1, 23), ';');
        Check.due("34: the first of 48", () -> Towns.full().lineAt(7, 0), '3');
        Check.due("34: the last of 48", () -> Towns.full().lineAt(7, 47), ';');
    }

    /** Promise 35: an empty object and a full one are safe, and so are those with tables that are undone. */
    private static void promise35Safe() {
        Check.due("35: an empty object", () -> new CensusLoom().isSafe(), true);
        Check.due("35: some", () -> Towns.some().isSafe(), true);
        Check.due("35: a full object", () -> Towns.full().isSafe(), true);
        Check.due("35: all 8 undone", () -> undoneEight().isSafe(), true);
        Check.due("35: what cannot be told", () -> eightAndUntellable().isSafe(), true);
        SOME.unchanged("35: asking changes nothing", CensusLoom::isSafe);
        FULL.unchanged("35: asking changes nothing in a full object", CensusLoom::isSafe);
        FULL.unchanged("19: nor does counting anew", loom -> loom.countAnew(5, 3));
        FULL.unchanged("31: nor does looking for found cells", loom -> loom.found(7));
        FULL.unchanged("32: nor does looking for ways", loom -> loom.foundByWays(7));
    }

    public static void main(String[] args) {
        promise23Blocks();
        promise23EightTables();
        promise23CannotBeTold();
        promise23Pair();
        termsWhichAreHidden();
        termsClosedWays();
        termsFirstFound();
        termsHelping();
        termsAllThatAreShown();
        termsLeastAndFirst();
        promises24To34Tables();
        promises25To34TableFirst();
        promises25To30Blocks();
        promises25To30Groups();
        promises25To30Cells();
        promise26Hidden();
        promises27And28Extremes();
        promise30Risks();
        termsEachCountUndoes();
        termsBlocksUndo();
        termsForEver();
        termsBehindSomeCall();
        termsLines();
        promises29And33Extremes();
        promise34Indexes();
        promise35Safe();
        Check.end();
    }
}
