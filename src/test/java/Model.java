import java.util.ArrayList;
import java.util.Comparator;
import java.util.HashMap;
import java.util.List;
import java.util.Map;
import java.util.NoSuchElementException;

/**
 * The document written down a second time, as plainly as it can be and without looking at the class: nothing is kept
 * that can be found anew, and a hidden cell is found if the equations of the sums have only one answer for it.
 */
final class Model {
    record Person(char list, int address, int name, int year) {
    }

    record Pair(int census, int check, int score) {
    }

    static final class Told {
        int[][] counts;
        boolean[][] hidden;
        boolean undone;
    }

    int blocks = 0;
    final List<Integer> blockOf = new ArrayList<>();
    final List<Person> people = new ArrayList<>();
    final Map<String, Boolean> decisions = new HashMap<>();
    final Map<Character, Integer> points = new HashMap<>(Map.of('n', 5, 'y', 4, 'p', 3));
    int lower = 6;
    int upper = 9;
    final List<Told> tables = new ArrayList<>();
    int plainHides = 0;
    int helpingHides = 0;

    int addBlock() {
        if (blocks == 6) {
            throw new IllegalStateException();
        }
        blocks++;
        look();
        return blocks - 1;
    }

    int addAddress(int block) {
        needBlock(block, blocks);
        if (blockOf.size() == 20) {
            throw new IllegalStateException();
        }
        blockOf.add(block);
        return blockOf.size() - 1;
    }

    int split(int block, int address) {
        needBlock(block, blocks);
        if (address < 0 || address >= blockOf.size() || blockOf.get(address) != block) {
            throw new NoSuchElementException();
        }
        if (blocks == 6) {
            throw new IllegalStateException();
        }
        for (int a = address; a < blockOf.size(); a++) {
            if (blockOf.get(a) == block) {
                blockOf.set(a, blocks);
            }
        }
        blocks++;
        look();
        return blocks - 1;
    }

    int join(int block, int other) {
        needBlock(block, blocks);
        needBlock(other, blocks);
        if (block == other) {
            throw new IllegalArgumentException();
        }
        int gone = 0;
        for (int a = 0; a < blockOf.size(); a++) {
            if (blockOf.get(a) == block) {
                blockOf.set(a, other);
                gone++;
            }
        }
        look();
        return gone;
    }

    int addRecord(char list, int address, int name, int year) {
        if ("ck".indexOf(list) < 0 || name < 0 || name > 999 || year < 0 || year > 120) {
            throw new IllegalArgumentException();
        }
        if (address < 0 || address >= blockOf.size()) {
            throw new IndexOutOfBoundsException();
        }
        if (people.size() == 40) {
            throw new IllegalStateException();
        }
        people.add(new Person(list, address, name, year));
        look();
        return people.size() - 1;
    }

    int blockOf(int address) {
        if (address < 0 || address >= blockOf.size()) {
            throw new IndexOutOfBoundsException();
        }
        return blockOf.get(address);
    }

    int setPoints(char part, int value) {
        if (!points.containsKey(part) || value < 0 || value > 9) {
            throw new IllegalArgumentException();
        }
        int before = points.put(part, value);
        look();
        return before;
    }

    int setBounds(int low, int high) {
        if (low < 0 || low > 30 || high < low || high > 30) {
            throw new IllegalArgumentException();
        }
        int before = upper;
        lower = low;
        upper = high;
        look();
        return before;
    }

    int score(int record, int other) {
        needPair(record, other);
        return scoreFor(people.get(record), people.get(other));
    }

    int scoreFor(Person a, Person b) {
        int n = points.get('n');
        int y = points.get('y');
        int p = points.get('p');
        int sum = 0;
        String nameA = String.format("%03d", a.name);
        String nameB = String.format("%03d", b.name);
        if (nameA.equals(nameB)) {
            sum += n;
        } else if (nameA.substring(0, 2).equals(nameB.substring(0, 2))) {
            sum += n / 2;
        }
        if (a.year == b.year) {
            sum += y;
        } else if (Math.abs(a.year - b.year) == 1) {
            sum += y / 2;
        }
        if (a.address == b.address) {
            sum += p;
        } else if (blockOf.get(a.address).equals(blockOf.get(b.address))) {
            sum += p / 2;
        }
        return sum;
    }

    static String key(int record, int other) {
        return record < other ? record + "-" + other : other + "-" + record;
    }

    int decide(int record, int other, boolean isSame) {
        needPair(record, other);
        if (people.get(record).list == 'k' && people.get(other).list == 'k') {
            throw new UnsupportedOperationException();
        }
        decisions.put(key(record, other), isSame);
        return look();
    }

    int takeBack(int record, int other) {
        needRecord(record);
        needRecord(other);
        if (decisions.remove(key(record, other)) == null) {
            throw new IllegalStateException();
        }
        return look();
    }

    char link(int record, int other) {
        needPair(record, other);
        Boolean decided = decisions.get(key(record, other));
        if (decided != null) {
            return decided ? 'y' : 'n';
        }
        int score = score(record, other);
        return score >= upper ? 'y' : score >= lower ? '?' : 'n';
    }

    int openPairs() {
        int open = 0;
        for (int b = 0; b < people.size(); b++) {
            for (int a = 0; a < b; a++) {
                boolean bothChecks = people.get(a).list == 'k' && people.get(b).list == 'k';
                if (!bothChecks && link(b, a) == '?') {
                    open++;
                }
            }
        }
        return open;
    }

    List<Integer> counted() {
        List<Integer> counted = new ArrayList<>();
        for (int r = 0; r < people.size(); r++) {
            if (people.get(r).list != 'c') {
                continue;
            }
            boolean isNew = true;
            for (int c : counted) {
                isNew = isNew && link(c, r) != 'y';
            }
            if (isNew) {
                counted.add(r);
            }
        }
        return counted;
    }

    boolean isDouble(int record) {
        needRecord(record);
        return people.get(record).list == 'c' && !counted().contains(record);
    }

    List<Pair> matching() {
        List<Pair> pairs = new ArrayList<>();
        for (int c : counted()) {
            for (int k = 0; k < people.size(); k++) {
                if (people.get(k).list == 'k' && link(c, k) == 'y') {
                    pairs.add(new Pair(c, k, score(c, k)));
                }
            }
        }
        pairs.sort(Comparator.comparingInt((Pair p) -> -p.score).thenComparingInt(p -> p.census)
                .thenComparingInt(p -> p.check));
        List<Pair> taken = new ArrayList<>();
        for (Pair p : pairs) {
            if (taken.stream().noneMatch(t -> t.census == p.census || t.check == p.check)) {
                taken.add(p);
            }
        }
        return taken;
    }

    int matchOf(int record) {
        needRecord(record);
        for (Pair p : matching()) {
            if (p.census == record || p.check == record) {
                return p.census + p.check - record;
            }
        }
        throw new IllegalStateException();
    }

    int matches() {
        return matching().size();
    }

    static int groupOf(int year) {
        return year <= 17 ? 0 : year <= 39 ? 1 : year <= 64 ? 2 : 3;
    }

    int[][] counts() {
        int[][] counts = new int[blocks][4];
        for (int r : counted()) {
            counts[blockOf.get(people.get(r).address)][groupOf(people.get(r).year)]++;
        }
        return counts;
    }

    int count(int block, int group) {
        needBlock(block, blocks);
        needGroup(group);
        return counts()[block][group];
    }

    long estimate() {
        long checks = people.stream().filter(p -> p.list == 'k').count();
        if (matches() == 0) {
            throw new ArithmeticException();
        }
        return counted().size() * checks / matches();
    }

    float doubleShare() {
        long census = people.stream().filter(p -> p.list == 'c').count();
        if (census == 0) {
            throw new ArithmeticException();
        }
        return (float) (census - counted().size()) / (float) census;
    }

    double meanScore() {
        List<Pair> taken = matching();
        if (taken.isEmpty()) {
            throw new ArithmeticException();
        }
        return (double) taken.stream().mapToInt(p -> p.score).sum() / (double) taken.size();
    }

    /** Whether the sums, with all cells known that are not hidden, leave a hidden cell only one count. */
    static boolean isFound(boolean[][] hidden, int block, int group) {
        List<int[]> cells = new ArrayList<>();
        int asked = -1;
        for (int b = 0; b < hidden.length; b++) {
            for (int g = 0; g < 4; g++) {
                if (hidden[b][g]) {
                    if (b == block && g == group) {
                        asked = cells.size();
                    }
                    cells.add(new int[] {b, g});
                }
            }
        }
        // The rows are the sums of blocks and of groups; the cell is fixed if its unit row is made of them.
        int rows = hidden.length + 4;
        double[][] without = new double[rows][cells.size()];
        for (int c = 0; c < cells.size(); c++) {
            without[cells.get(c)[0]][c] = 1;
            without[hidden.length + cells.get(c)[1]][c] = 1;
        }
        double[][] with = new double[rows + 1][];
        for (int r = 0; r < rows; r++) {
            with[r] = without[r].clone();
        }
        with[rows] = new double[cells.size()];
        with[rows][asked] = 1;
        return rank(with) == rank(without);
    }

    static int rank(double[][] m) {
        int rank = 0;
        int columns = m.length == 0 ? 0 : m[0].length;
        for (int c = 0; c < columns && rank < m.length; c++) {
            int pivot = rank;
            for (int r = rank; r < m.length; r++) {
                if (Math.abs(m[r][c]) > Math.abs(m[pivot][c])) {
                    pivot = r;
                }
            }
            if (Math.abs(m[pivot][c]) < 1e-9) {
                continue;
            }
            double[] swap = m[pivot];
            m[pivot] = m[rank];
            m[rank] = swap;
            for (int r = rank + 1; r < m.length; r++) {
                double factor = m[r][c] / m[rank][c];
                for (int k = c; k < columns; k++) {
                    m[r][k] -= factor * m[rank][k];
                }
            }
            rank++;
        }
        return rank;
    }

    static boolean[][] small(int[][] counts) {
        boolean[][] small = new boolean[counts.length][4];
        for (int b = 0; b < counts.length; b++) {
            for (int g = 0; g < 4; g++) {
                small[b][g] = counts[b][g] == 1 || counts[b][g] == 2;
            }
        }
        return small;
    }

    static int[] firstFound(boolean[][] hidden) {
        for (int b = 0; b < hidden.length; b++) {
            for (int g = 0; g < 4; g++) {
                if (hidden[b][g] && isFound(hidden, b, g)) {
                    return new int[] {b, g};
                }
            }
        }
        return null;
    }

    int tell() {
        if (blocks < 2 || tables.size() == 8) {
            throw new IllegalStateException();
        }
        int[][] counts = counts();
        boolean[][] hidden = small(counts);
        for (int[] first = firstFound(hidden); first != null; first = firstFound(hidden)) {
            int[] best = null;
            int[] helping = null;
            for (int b = 0; b < blocks; b++) {
                for (int g = 0; g < 4; g++) {
                    if (hidden[b][g] || counts[b][g] == 0) {
                        continue;
                    }
                    if (best == null || counts[b][g] < counts[best[0]][best[1]]) {
                        best = new int[] {b, g};
                    }
                    hidden[b][g] = true;
                    boolean helps = !isFound(hidden, first[0], first[1]);
                    hidden[b][g] = false;
                    if (helps && (helping == null || counts[b][g] < counts[helping[0]][helping[1]])) {
                        helping = new int[] {b, g};
                    }
                }
            }
            if (best == null) {
                throw new UnsupportedOperationException();
            }
            int[] chosen = helping != null ? helping : best;
            helpingHides += helping != null ? 1 : 0;
            plainHides += helping != null ? 0 : 1;
            hidden[chosen[0]][chosen[1]] = true;
        }
        Told told = new Told();
        told.counts = counts;
        told.hidden = hidden;
        tables.add(told);
        return tables.size() - 1;
    }

    char stateOf(int table) {
        return told(table).undone ? 'u' : 't';
    }

    boolean isHidden(int table, int block, int group) {
        Told told = told(table);
        needBlock(block, told.counts.length);
        needGroup(group);
        return told.hidden[block][group];
    }

    int cell(int table, int block, int group) {
        if (isHidden(table, block, group)) {
            throw new UnsupportedOperationException();
        }
        return told(table).counts[block][group];
    }

    int blockSum(int table, int block) {
        Told told = told(table);
        needBlock(block, told.counts.length);
        int sum = 0;
        for (int g = 0; g < 4; g++) {
            sum += told.counts[block][g];
        }
        return sum;
    }

    int groupSum(int table, int group) {
        Told told = told(table);
        needGroup(group);
        int sum = 0;
        for (int[] row : told.counts) {
            sum += row[group];
        }
        return sum;
    }

    int holes(int table) {
        int holes = 0;
        for (boolean[] row : told(table).hidden) {
            for (boolean hidden : row) {
                holes += hidden ? 1 : 0;
            }
        }
        return holes;
    }

    boolean isAtRisk(int table, int block, int group) {
        Told told = told(table);
        needBlock(block, told.counts.length);
        needGroup(group);
        boolean[][] small = small(told.counts);
        if (!small[block][group]) {
            throw new UnsupportedOperationException();
        }
        return isFound(small, block, group);
    }

    int found(int table) {
        told(table);
        return 0;
    }

    String line(int table) {
        Told told = told(table);
        StringBuilder line = new StringBuilder();
        for (int b = 0; b < told.counts.length; b++) {
            for (int g = 0; g < 4; g++) {
                line.append(told.hidden[b][g] ? "x" : "" + told.counts[b][g]).append(g < 3 ? "," : ";");
            }
        }
        return line.toString();
    }

    int lineLength(int table) {
        return line(table).length();
    }

    char lineAt(int table, int index) {
        String line = line(table);
        if (index < 0 || index >= line.length()) {
            throw new IndexOutOfBoundsException();
        }
        return line.charAt(index);
    }

    private int look() {
        int undone = 0;
        int[][] counts = counts();
        for (Told told : tables) {
            if (!told.undone && !java.util.Arrays.deepEquals(told.counts, counts)) {
                told.undone = true;
                undone++;
            }
        }
        return undone;
    }

    private Told told(int table) {
        if (table < 0 || table >= tables.size()) {
            throw new NoSuchElementException();
        }
        return tables.get(table);
    }

    private static void needBlock(int block, int blocks) {
        if (block < 0 || block >= blocks) {
            throw new IndexOutOfBoundsException();
        }
    }

    private static void needGroup(int group) {
        if (group < 0 || group > 3) {
            throw new IllegalArgumentException();
        }
    }

    private void needRecord(int record) {
        if (record < 0 || record >= people.size()) {
            throw new NoSuchElementException();
        }
    }

    private void needPair(int record, int other) {
        needRecord(record);
        needRecord(other);
        if (record == other) {
            throw new IllegalArgumentException();
        }
    }
}
