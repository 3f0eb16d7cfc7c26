import java.lang.reflect.Field;
import java.lang.reflect.Method;
import java.util.Random;

/**
 * What no call can show as long as the class is right: that both ways to look for found cells agree on any hidden
 * cells, and that countAnew and isSafe see it if what is kept is wrong. It reaches inside by the private names.
 */
public final class InsideTest {
    private static Object field(Object owner, String name) throws Exception {
        Field field = owner.getClass().getDeclaredField(name);
        field.setAccessible(true);
        return field.get(owner);
    }

    private static void put(Object owner, String name, Object value) throws Exception {
        Field field = owner.getClass().getDeclaredField(name);
        field.setAccessible(true);
        field.set(owner, value);
    }

    private static boolean ask(Method method, int hidden, int cell) throws Exception {
        return (Boolean) method.invoke(null, hidden, cell);
    }

    private static Method hiding(String name) throws Exception {
        Method method = Class.forName("CensusLoom$Hiding").getDeclaredMethod(name, int.class, int.class);
        method.setAccessible(true);
        return method;
    }

    private static void waysAgree() throws Exception {
        Method isFound = hiding("isFound");
        Method hasClosedWay = hiding("hasClosedWay");
        Random lot = new Random(7);
        int found = 0;
        int closed = 0;
        for (int round = 0; round < 20000; round++) {
            int hidden = lot.nextInt(1 << 24) & lot.nextInt(1 << 24);
            hidden &= lot.nextBoolean() ? lot.nextInt(1 << 24) : -1;
            boolean[][] cells = new boolean[6][4];
            for (int cell = 0; cell < 24; cell++) {
                cells[cell / 4][cell % 4] = (hidden >> cell & 1) != 0;
            }
            for (int cell = 0; cell < 24; cell++) {
                if (!cells[cell / 4][cell % 4]) {
                    continue;
                }
                boolean due = Model.isFound(cells, cell / 4, cell % 4);
                boolean byTies = ask(isFound, hidden, cell);
                boolean byWays = !ask(hasClosedWay, hidden, cell);
                found += due ? 1 : 0;
                closed += due ? 0 : 1;
                if (byTies != due || byWays != due) {
                    Check.due("cell " + cell + " of " + Integer.toBinaryString(hidden) + " by ties " + byTies
                            + ", by ways " + byWays, () -> byTies && byWays, due);
                }
            }
        }
        int leastFound = Math.min(found, closed);
        Check.due("enough cells of both kinds", () -> leastFound > 1000, true);
    }

    private static CensusLoom withTable() {
        CensusLoom loom = new CensusLoom();
        int[][] counts = {{2, 1, 3, 0}, {1, 2, 0, 4}};
        int[] years = {10, 30, 50, 90};
        for (int block = 0; block < 2; block++) {
            loom.addBlock();
            loom.addAddress(block);
            for (int group = 0; group < 4; group++) {
                for (int person = 0; person < counts[block][group]; person++) {
                    loom.addRecord('c', block, (block * 16 + group * 4 + person) * 20, years[group]);
                }
            }
        }
        Check.due("tell()", loom::tell, 0);
        Check.due("isSafe()", loom::isSafe, true);
        return loom;
    }

    private static void keptCounts() throws Exception {
        CensusLoom loom = withTable();
        loom.addBlock();
        Check.due("the table is undone", () -> loom.stateOf(0), 'u');
        int[] counts = (int[]) field(field(loom, "kept"), "counts");
        for (int cell = 0; cell < 12; cell++) {
            int block = cell / 4;
            int group = cell % 4;
            int right = counts[cell];
            counts[cell]++;
            Check.due("count is as it is kept", () -> loom.count(block, group), right + 1);
            Check.due("countAnew is not", () -> loom.countAnew(block, group), right);
            Check.due("wrong counts are not safe", loom::isSafe, false);
            counts[cell]--;
            Check.due("right ones are", loom::isSafe, true);
        }
    }

    private static void tablesInside() throws Exception {
        CensusLoom loom = withTable();
        Object table = ((Object[]) field(loom, "tables"))[0];
        int[] counts = (int[]) field(table, "counts");
        counts[7]++;
        Check.due("other counts than the present ones are not safe", loom::isSafe, false);
        put(table, "isUndone", true);
        Check.due("but safe in an undone table", loom::isSafe, true);
        put(table, "isUndone", false);
        counts[7]--;
        put(table, "hidden", 0b0010_0011);
        Check.due("a chain of three: found", () -> loom.found(0), 3);
        Check.due("a chain of three: found by ways", () -> loom.foundByWays(0), 3);
        Check.due("found cells are not safe", loom::isSafe, false);
        put(table, "isUndone", true);
        Check.due("not in an undone table either", loom::isSafe, false);
        put(table, "hidden", 0b0011_0011);
        Check.due("safe again", loom::isSafe, true);
        loom.tell();
        Object next = ((Object[]) field(loom, "tables"))[1];
        put(next, "hidden", 0b0010_0011);
        Check.due("not in a later table either", loom::isSafe, false);
    }

    public static void main(String[] args) throws Exception {
        waysAgree();
        keptCounts();
        tablesInside();
        Check.end();
    }
}
