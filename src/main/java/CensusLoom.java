import java.util.NoSuchElementException;

/**
 * A count of people: blocks have addresses and are split and joined, records of a census and of a check are matched
 * by scores and by the decisions of clerks, people who were counted twice count once, and how many there are is
 * estimated by pairs. Tables are told whose small numbers are hidden so that none can be found from the sums.
 */
public final class CensusLoom {
    private static final int MAX_BLOCKS = 6;
    private static final int MAX_ADDRESSES = 20;
    private static final int MAX_RECORDS = 40;
    private static final int MAX_TABLES = 8;
    private static final int MAX_NAME = 999;
    private static final int MAX_YEAR = 120;
    private static final int MAX_POINTS = 9;
    private static final int MAX_BOUND = 30;
    private static final int MAX_SMALL = 2;
    private static final int GROUPS = 4;
    private static final int CELLS = MAX_BLOCKS * GROUPS;
    private static final int NONE = -1;
    private static final char CENSUS = 'c';
    private static final char CHECK = 'k';
    private static final char LINKED = 'y';
    private static final char OPEN = '?';
    private static final char APART = 'n';

    private final Places places;
    private final People people;
    private final Links links;
    private final Tally kept;
    private final Tally anew;
    private final Pairing pairing;
    private final Table[] tables;
    private int told;

    public CensusLoom() {
        places = new Places();
        people = new People(places);
        links = new Links(people);
        kept = new Tally(people, links);
        anew = new Tally(people, links);
        pairing = new Pairing(people, links, kept);
        tables = new Table[MAX_TABLES];
        told = 0;
    }

    // Blocks, addresses, records

    public int addBlock() throws IllegalStateException {
        if (places.blocks >= MAX_BLOCKS) {
            throw new IllegalStateException("there are 6 blocks");
        }
        int block = places.openBlock();
        settle();
        return block;
    }

    public int addAddress(int block) throws IndexOutOfBoundsException, IllegalStateException {
        needBlock(block);
        if (places.addresses >= MAX_ADDRESSES) {
            throw new IllegalStateException("there are 20 addresses");
        }
        return places.openAddress(block);
    }

    public int split(int block, int address)
            throws IndexOutOfBoundsException, NoSuchElementException, IllegalStateException {
        needBlock(block);
        if (!places.hasAddress(address) || places.blockOfAddress[address] != block) {
            throw new NoSuchElementException("there is no such address in the block");
        }
        if (places.blocks >= MAX_BLOCKS) {
            throw new IllegalStateException("there are 6 blocks");
        }
        int target = places.openBlock();
        places.move(block, address, target);
        settle();
        return target;
    }

    public int join(int block, int other) throws IndexOutOfBoundsException, IllegalArgumentException {
        needBlock(block);
        needBlock(other);
        if (block == other) {
            throw new IllegalArgumentException("both blocks are the same");
        }
        int moved = places.move(block, 0, other);
        settle();
        return moved;
    }

    public int addRecord(char list, int address, int name, int year)
            throws IllegalArgumentException, IndexOutOfBoundsException, IllegalStateException {
        if (list != CENSUS && list != CHECK) {
            throw new IllegalArgumentException("there is no such list");
        }
        if (name < 0 || name > MAX_NAME || year < 0 || year > MAX_YEAR) {
            throw new IllegalArgumentException("the name or the year is out of range");
        }
        needAddress(address);
        if (people.size >= MAX_RECORDS) {
            throw new IllegalStateException("there are 40 records");
        }
        int record = people.add(list == CENSUS, address, name, year);
        settle();
        return record;
    }

    public int blockOf(int address) throws IndexOutOfBoundsException {
        needAddress(address);
        return places.blockOfAddress[address];
    }

    // Scores, links, decisions

    public int setPoints(char part, int points) throws IllegalArgumentException {
        if (part != 'n' && part != 'y' && part != 'p') {
            throw new IllegalArgumentException("there is no such part");
        }
        if (points < 0 || points > MAX_POINTS) {
            throw new IllegalArgumentException("the points are out of range");
        }
        int before = links.changePoints(part, points);
        settle();
        return before;
    }

    public int setBounds(int lower, int upper) throws IllegalArgumentException {
        if (lower < 0 || lower > MAX_BOUND || upper < lower || upper > MAX_BOUND) {
            throw new IllegalArgumentException("a bound is out of range");
        }
        int before = links.upper;
        links.lower = lower;
        links.upper = upper;
        settle();
        return before;
    }

    public int score(int record, int other) throws NoSuchElementException, IllegalArgumentException {
        needTwoRecords(record, other);
        return links.scoreOf(record, other);
    }

    public int decide(int record, int other, boolean isSame)
            throws NoSuchElementException, IllegalArgumentException, UnsupportedOperationException {
        needTwoRecords(record, other);
        if (!people.isCensus[record] && !people.isCensus[other]) {
            throw new UnsupportedOperationException("both records are of the check");
        }
        links.putDecision(record, other, isSame ? LINKED : APART);
        return settle();
    }

    public int takeBack(int record, int other) throws NoSuchElementException, IllegalStateException {
        needRecord(record);
        needRecord(other);
        if (!links.isDecided(record, other)) {
            throw new IllegalStateException("there is no decision on these records");
        }
        links.putDecision(record, other, Links.UNDECIDED);
        return settle();
    }

    public char link(int record, int other) throws NoSuchElementException, IllegalArgumentException {
        needTwoRecords(record, other);
        return links.kindOf(record, other);
    }

    public int openPairs() {
        int open = 0;
        for (int record = 0; record < people.size; record++) {
            for (int other = record + 1; other < people.size; other++) {
                boolean isAsked = people.isCensus[record] || people.isCensus[other];
                if (isAsked && links.kindOf(record, other) == OPEN) {
                    open++;
                }
            }
        }
        return open;
    }

    public boolean isDouble(int record) throws NoSuchElementException {
        needRecord(record);
        return kept.isRepeated[record];
    }

    public int matchOf(int record) throws NoSuchElementException, IllegalStateException {
        needRecord(record);
        if (pairing.partner[record] == NONE) {
            throw new IllegalStateException("the record has no match");
        }
        return pairing.partner[record];
    }

    public int matches() {
        return pairing.size;
    }

    // Counts

    public int count(int block, int group) throws IndexOutOfBoundsException, IllegalArgumentException {
        needBlock(block);
        needGroup(group);
        return kept.counts[block * GROUPS + group];
    }

    public int countAnew(int block, int group) throws IndexOutOfBoundsException, IllegalArgumentException {
        needBlock(block);
        needGroup(group);
        anew.renew();
        return anew.counts[block * GROUPS + group];
    }

    public long estimate() throws ArithmeticException {
        if (pairing.size == 0) {
            throw new ArithmeticException("there are no matches");
        }
        int checks = people.size - kept.counted - kept.repeated;
        return (long) kept.counted * checks / pairing.size;
    }

    public float doubleShare() throws ArithmeticException {
        int censusRecords = kept.counted + kept.repeated;
        if (censusRecords == 0) {
            throw new ArithmeticException("there are no census records");
        }
        return (float) kept.repeated / (float) censusRecords;
    }

    public double meanScore() throws ArithmeticException {
        if (pairing.size == 0) {
            throw new ArithmeticException("there are no matches");
        }
        return (double) pairing.scoreSum / (double) pairing.size;
    }

    // Tables

    public int tell() throws IllegalStateException, UnsupportedOperationException {
        if (places.blocks < 2) {
            throw new IllegalStateException("there are less than 2 blocks");
        }
        if (told >= MAX_TABLES) {
            throw new IllegalStateException("8 tables were told");
        }
        int hidden = Hiding.choose(kept.counts);
        if (hidden == NONE) {
            throw new UnsupportedOperationException("the table cannot be told");
        }
        tables[told] = new Table(places.blocks, kept.counts, hidden);
        told++;
        return told - 1;
    }

    public char stateOf(int table) throws NoSuchElementException {
        return toldTable(table).isUndone ? 'u' : 't';
    }

    public boolean isHidden(int table, int block, int group)
            throws NoSuchElementException, IndexOutOfBoundsException, IllegalArgumentException {
        Table chosen = toldTable(table);
        needCell(chosen, block, group);
        return Hiding.has(chosen.hidden, block * GROUPS + group);
    }

    public int cell(int table, int block, int group)
            throws NoSuchElementException, IndexOutOfBoundsException, IllegalArgumentException,
            UnsupportedOperationException {
        Table chosen = toldTable(table);
        needCell(chosen, block, group);
        if (Hiding.has(chosen.hidden, block * GROUPS + group)) {
            throw new UnsupportedOperationException("the cell is hidden");
        }
        return chosen.counts[block * GROUPS + group];
    }

    public int blockSum(int table, int block) throws NoSuchElementException, IndexOutOfBoundsException {
        Table chosen = toldTable(table);
        needBlockIn(chosen, block);
        return chosen.sumOfBlock(block);
    }

    public int groupSum(int table, int group) throws NoSuchElementException, IllegalArgumentException {
        Table chosen = toldTable(table);
        needGroup(group);
        return chosen.sumOfGroup(group);
    }

    public int holes(int table) throws NoSuchElementException {
        return Integer.bitCount(toldTable(table).hidden);
    }

    public boolean isAtRisk(int table, int block, int group)
            throws NoSuchElementException, IndexOutOfBoundsException, IllegalArgumentException,
            UnsupportedOperationException {
        Table chosen = toldTable(table);
        needCell(chosen, block, group);
        int small = Hiding.smallCells(chosen.counts);
        if (!Hiding.has(small, block * GROUPS + group)) {
            throw new UnsupportedOperationException("the count is neither 1 nor 2");
        }
        return Hiding.isFound(small, block * GROUPS + group);
    }

    public int found(int table) throws NoSuchElementException {
        return Hiding.numberFound(toldTable(table).hidden);
    }

    public int foundByWays(int table) throws NoSuchElementException {
        return Hiding.numberWithoutWay(toldTable(table).hidden);
    }

    public int lineLength(int table) throws NoSuchElementException {
        return toldTable(table).line.length();
    }

    public char lineAt(int table, int index) throws NoSuchElementException, IndexOutOfBoundsException {
        String line = toldTable(table).line;
        if (index < 0 || index >= line.length()) {
            throw new IndexOutOfBoundsException("there is no such index");
        }
        return line.charAt(index);
    }

    public boolean isSafe() {
        anew.renew();
        if (!anew.hasCounts(kept.counts)) {
            return false;
        }
        for (int table = 0; table < told; table++) {
            if (!isSafeTable(tables[table])) {
                return false;
            }
        }
        return true;
    }

    private boolean isSafeTable(Table table) {
        if (table == null) {
            return false;
        }
        boolean nothingFound = Hiding.numberFound(table.hidden) == 0 && Hiding.numberWithoutWay(table.hidden) == 0;
        return nothingFound && (table.isUndone || table.shows(places.blocks, kept.counts));
    }

    /** Brings all that is kept up to date behind a call that changed something; returns how many tables it undid. */
    private int settle() {
        kept.renew();
        pairing.renew();
        int undone = 0;
        for (int i = 0; i < told; i++) {
            Table table = tables[i];
            if (table != null && !table.isUndone && !table.shows(places.blocks, kept.counts)) {
                table.isUndone = true;
                undone++;
            }
        }
        return undone;
    }

    private void needBlock(int block) {
        if (block < 0 || block >= places.blocks) {
            throw new IndexOutOfBoundsException("there is no such block");
        }
    }

    private void needAddress(int address) {
        if (!places.hasAddress(address)) {
            throw new IndexOutOfBoundsException("there is no such address");
        }
    }

    private void needGroup(int group) {
        if (group < 0 || group >= GROUPS) {
            throw new IllegalArgumentException("the group is out of range");
        }
    }

    private void needRecord(int record) {
        if (record < 0 || record >= people.size) {
            throw new NoSuchElementException("there is no such record");
        }
    }

    private void needTwoRecords(int record, int other) {
        needRecord(record);
        needRecord(other);
        if (record == other) {
            throw new IllegalArgumentException("both records are the same");
        }
    }

    private Table toldTable(int table) {
        Table chosen = table >= 0 && table < told ? tables[table] : null;
        if (chosen == null) {
            throw new NoSuchElementException("there is no such table");
        }
        return chosen;
    }

    private void needBlockIn(Table table, int block) {
        if (block < 0 || block >= table.blocks) {
            throw new IndexOutOfBoundsException("the table has no such block");
        }
    }

    private void needCell(Table table, int block, int group) {
        needBlockIn(table, block);
        needGroup(group);
    }

    /** The blocks, and which of them each address is in. */
    private static final class Places {
        final int[] blockOfAddress = new int[MAX_ADDRESSES];
        int blocks = 0;
        int addresses = 0;

        boolean hasAddress(int address) {
            return address >= 0 && address < addresses;
        }

        int openBlock() {
            blocks++;
            return blocks - 1;
        }

        int openAddress(int block) {
            blockOfAddress[addresses] = block;
            addresses++;
            return addresses - 1;
        }

        int move(int block, int lowest, int target) {
            int moved = 0;
            for (int address = lowest; address < addresses; address++) {
                if (blockOfAddress[address] == block) {
                    blockOfAddress[address] = target;
                    moved++;
                }
            }
            return moved;
        }
    }

    /** The records of both lists. */
    private static final class People {
        final Places places;
        final boolean[] isCensus = new boolean[MAX_RECORDS];
        final int[] addresses = new int[MAX_RECORDS];
        final int[] names = new int[MAX_RECORDS];
        final int[] years = new int[MAX_RECORDS];
        int size = 0;

        People(Places places) {
            this.places = places;
        }

        int add(boolean ofCensus, int address, int name, int year) {
            isCensus[size] = ofCensus;
            addresses[size] = address;
            names[size] = name;
            years[size] = year;
            size++;
            return size - 1;
        }

        int blockAt(int record) {
            return places.blockOfAddress[addresses[record]];
        }

        int groupAt(int record) {
            int year = years[record];
            if (year <= 17) {
                return 0;
            }
            if (year <= 39) {
                return 1;
            }
            return year <= 64 ? 2 : 3;
        }
    }

    /** What links two records: the points and bounds for their score, and the decisions of clerks above these. */
    private static final class Links {
        static final char UNDECIDED = '-';

        final People people;
        final char[] decisions = new char[MAX_RECORDS * MAX_RECORDS];
        int namePoints = 5;
        int yearPoints = 4;
        int placePoints = 3;
        int lower = 6;
        int upper = 9;

        Links(People people) {
            this.people = people;
            for (int i = 0; i < decisions.length; i++) {
                decisions[i] = UNDECIDED;
            }
        }

        int changePoints(char part, int points) {
            int before;
            if (part == 'n') {
                before = namePoints;
                namePoints = points;
            } else if (part == 'y') {
                before = yearPoints;
                yearPoints = points;
            } else {
                before = placePoints;
                placePoints = points;
            }
            return before;
        }

        int bestScore() {
            return namePoints + yearPoints + placePoints;
        }

        int scoreOf(int record, int other) {
            boolean isSameAddress = people.addresses[record] == people.addresses[other];
            boolean isSameBlock = people.blockAt(record) == people.blockAt(other);
            return nameScore(people.names[record], people.names[other])
                    + yearScore(people.years[record] - people.years[other])
                    + placeScore(isSameAddress, isSameBlock);
        }

        int nameScore(int name, int otherName) {
            if (name == otherName) {
                return namePoints;
            }
            return name / 10 == otherName / 10 ? namePoints / 2 : 0;
        }

        int yearScore(int difference) {
            if (difference == 0) {
                return yearPoints;
            }
            return difference == 1 || difference == -1 ? yearPoints / 2 : 0;
        }

        int placeScore(boolean isSameAddress, boolean isSameBlock) {
            if (isSameAddress) {
                return placePoints;
            }
            return isSameBlock ? placePoints / 2 : 0;
        }

        // A decision is on a pair, whichever record is named first.
        int placeOfPair(int record, int other) {
            return Math.min(record, other) * MAX_RECORDS + Math.max(record, other);
        }

        boolean isDecided(int record, int other) {
            return decisions[placeOfPair(record, other)] != UNDECIDED;
        }

        void putDecision(int record, int other, char decision) {
            decisions[placeOfPair(record, other)] = decision;
        }

        char kindOf(int record, int other) {
            char decision = decisions[placeOfPair(record, other)];
            if (decision != UNDECIDED) {
                return decision;
            }
            int score = scoreOf(record, other);
            if (score >= upper) {
                return LINKED;
            }
            return score >= lower ? OPEN : APART;
        }
    }

    /** Which census records are doubles, and how many of the others each cell has, as last found. */
    private static final class Tally {
        final People people;
        final Links links;
        final boolean[] isRepeated = new boolean[MAX_RECORDS];
        final int[] counts = new int[CELLS];
        int counted = 0;
        int repeated = 0;

        Tally(People people, Links links) {
            this.people = people;
            this.links = links;
        }

        void renew() {
            for (int cell = 0; cell < CELLS; cell++) {
                counts[cell] = 0;
            }
            counted = 0;
            repeated = 0;
            for (int record = 0; record < people.size; record++) {
                isRepeated[record] = people.isCensus[record] && repeatsEarlier(record);
                if (isRepeated[record]) {
                    repeated++;
                } else if (people.isCensus[record]) {
                    counted++;
                    counts[people.blockAt(record) * GROUPS + people.groupAt(record)]++;
                }
            }
        }

        boolean repeatsEarlier(int record) {
            for (int earlier = 0; earlier < record; earlier++) {
                if (isCounted(earlier) && links.kindOf(earlier, record) == LINKED) {
                    return true;
                }
            }
            return false;
        }

        boolean isCounted(int record) {
            return people.isCensus[record] && !isRepeated[record];
        }

        boolean hasCounts(int[] others) {
            for (int cell = 0; cell < CELLS; cell++) {
                if (counts[cell] != others[cell]) {
                    return false;
                }
            }
            return true;
        }
    }

    /** The matches of counted census records with check records, as last found. */
    private static final class Pairing {
        // There are most pairs if half of the records are of the census and half of the check.
        static final int MAX_PAIRS = MAX_RECORDS * MAX_RECORDS / 4;

        final People people;
        final Links links;
        final Tally tally;
        final int[] partner = new int[MAX_RECORDS];
        final int[] linkedCensus = new int[MAX_PAIRS];
        final int[] linkedCheck = new int[MAX_PAIRS];
        final int[] linkedScore = new int[MAX_PAIRS];
        int linkedPairs = 0;
        int size = 0;
        int scoreSum = 0;

        Pairing(People people, Links links, Tally tally) {
            this.people = people;
            this.links = links;
            this.tally = tally;
        }

        void renew() {
            for (int record = 0; record < MAX_RECORDS; record++) {
                partner[record] = NONE;
            }
            size = 0;
            scoreSum = 0;
            gatherLinked();
            for (int score = links.bestScore(); score >= 0; score--) {
                takeWithScore(score);
            }
        }

        // Gathered by rising numbers, so that each score's pairs are met in the due order.
        void gatherLinked() {
            linkedPairs = 0;
            for (int record = 0; record < people.size; record++) {
                if (!tally.isCounted(record)) {
                    continue;
                }
                for (int check = 0; check < people.size && linkedPairs < MAX_PAIRS; check++) {
                    if (!people.isCensus[check] && links.kindOf(record, check) == LINKED) {
                        linkedCensus[linkedPairs] = record;
                        linkedCheck[linkedPairs] = check;
                        linkedScore[linkedPairs] = links.scoreOf(record, check);
                        linkedPairs++;
                    }
                }
            }
        }

        void takeWithScore(int score) {
            for (int pair = 0; pair < linkedPairs; pair++) {
                int record = linkedCensus[pair];
                int check = linkedCheck[pair];
                if (linkedScore[pair] == score && partner[record] == NONE && partner[check] == NONE) {
                    partner[record] = check;
                    partner[check] = record;
                    size++;
                    scoreSum += score;
                }
            }
        }
    }

    /** A table as it was told; only whether it is undone changes later. */
    private static final class Table {
        final int blocks;
        final int[] counts = new int[CELLS];
        final int hidden;
        final String line;
        boolean isUndone = false;

        Table(int blocks, int[] present, int hidden) {
            this.blocks = blocks;
            this.hidden = hidden;
            for (int cell = 0; cell < CELLS && cell < present.length; cell++) {
                counts[cell] = present[cell];
            }
            line = lineOf(blocks, counts, hidden);
        }

        static String lineOf(int blocks, int[] counts, int hidden) {
            StringBuilder text = new StringBuilder();
            for (int cell = 0; cell < blocks * GROUPS && cell < counts.length; cell++) {
                if (Hiding.has(hidden, cell)) {
                    text.append('x');
                } else {
                    text.append(counts[cell]);
                }
                text.append(cell % GROUPS == GROUPS - 1 ? ';' : ',');
            }
            return text.toString();
        }

        boolean shows(int presentBlocks, int[] present) {
            if (blocks != presentBlocks) {
                return false;
            }
            for (int cell = 0; cell < CELLS; cell++) {
                if (counts[cell] != present[cell]) {
                    return false;
                }
            }
            return true;
        }

        int sumOfBlock(int block) {
            int sum = 0;
            for (int group = 0; group < GROUPS; group++) {
                sum += counts[block * GROUPS + group];
            }
            return sum;
        }

        int sumOfGroup(int group) {
            int sum = 0;
            for (int block = 0; block < MAX_BLOCKS; block++) {
                sum += counts[block * GROUPS + group];
            }
            return sum;
        }
    }

    /**
     * Which cells to hide. Cells are a set of bits, by blocks and then by groups. The blocks and the groups are the
     * ends of the cells, a set of bits too: a hidden cell ties its block and its group together, and it is found if
     * nothing else ties them.
     */
    private static final class Hiding {
        static final int ENDS = MAX_BLOCKS + GROUPS;
        static final int CELLS_OF_FIRST_BLOCK = 0xF;
        static final int CELLS_OF_FIRST_GROUP = 0x111111;

        static boolean has(int cells, int cell) {
            return (cells & (1 << cell)) != 0;
        }

        static int blockEnd(int cell) {
            return 1 << (cell / GROUPS);
        }

        static int groupEnd(int cell) {
            return 1 << (MAX_BLOCKS + cell % GROUPS);
        }

        static int endsOf(int cell) {
            return blockEnd(cell) | groupEnd(cell);
        }

        static int endsInBlock(int cells, int block) {
            int groups = (cells >> (block * GROUPS)) & CELLS_OF_FIRST_BLOCK;
            return (groups << MAX_BLOCKS) | (1 << block);
        }

        static int smallCells(int[] counts) {
            int small = 0;
            for (int cell = 0; cell < CELLS; cell++) {
                if (counts[cell] > 0 && counts[cell] <= MAX_SMALL) {
                    small |= 1 << cell;
                }
            }
            return small;
        }

        /** Returns the cells to hide, or NONE if the table cannot be told. */
        static int choose(int[] counts) {
            int hidden = smallCells(counts);
            for (int round = 0; round <= CELLS; round++) {
                int first = firstFound(hidden);
                if (first == NONE) {
                    return hidden;
                }
                int more = nextToHide(counts, hidden, first);
                if (more == NONE) {
                    return NONE;
                }
                hidden |= 1 << more;
            }
            return NONE;
        }

        static int firstFound(int hidden) {
            for (int cell = 0; cell < CELLS; cell++) {
                if (has(hidden, cell) && isFound(hidden, cell)) {
                    return cell;
                }
            }
            return NONE;
        }

        /** Returns the least cell that could be hidden for a found one, or NONE. */
        static int nextToHide(int[] counts, int hidden, int first) {
            int others = hidden & ~(1 << first);
            int near = tiedTo(blockEnd(first), others);
            int far = tiedTo(groupEnd(first), others);
            int shown = 0;
            int helping = 0;
            for (int cell = 0; cell < CELLS; cell++) {
                if (counts[cell] > 0 && !has(hidden, cell)) {
                    shown |= 1 << cell;
                    // Near and far have no end in common, so such a cell has one end in each.
                    if ((endsOf(cell) & near) != 0 && (endsOf(cell) & far) != 0) {
                        helping |= 1 << cell;
                    }
                }
            }
            return leastOf(counts, helping != 0 ? helping : shown);
        }

        static int leastOf(int[] counts, int cells) {
            int least = NONE;
            for (int cell = 0; cell < CELLS; cell++) {
                if (has(cells, cell) && (least == NONE || counts[cell] < counts[least])) {
                    least = cell;
                }
            }
            return least;
        }

        /** Returns all ends that hang together with some by cells. */
        static int tiedTo(int ends, int cells) {
            int tied = ends;
            for (int round = 0; round < ENDS; round++) {
                int before = tied;
                for (int block = 0; block < MAX_BLOCKS; block++) {
                    // A block hangs together with the groups of all its cells, so these ends come in together.
                    int together = endsInBlock(cells, block);
                    if ((together & tied) != 0) {
                        tied |= together;
                    }
                }
                if (tied == before) {
                    return tied;
                }
            }
            return tied;
        }

        static boolean isFound(int hidden, int cell) {
            int tied = tiedTo(blockEnd(cell), hidden & ~(1 << cell));
            return (tied & groupEnd(cell)) == 0;
        }

        static int numberFound(int hidden) {
            int number = 0;
            for (int cell = 0; cell < CELLS; cell++) {
                if (has(hidden, cell) && isFound(hidden, cell)) {
                    number++;
                }
            }
            return number;
        }

        static int numberWithoutWay(int hidden) {
            int number = 0;
            for (int cell = 0; cell < CELLS; cell++) {
                if (has(hidden, cell) && !hasClosedWay(hidden, cell)) {
                    number++;
                }
            }
            return number;
        }

        /**
         * Goes from a cell to others in turn within a block and within a group, all ways at once. A cell that was
         * come to is not gone to again: what can be reached behind it is reached already.
         */
        static boolean hasClosedWay(int hidden, int home) {
            int untried = hidden & ~(1 << home);
            int front = 1 << home;
            for (int step = 0; step < CELLS && front != 0; step++) {
                boolean isWithinBlock = step % 2 == 0;
                front = besides(front, isWithinBlock) & untried;
                untried &= ~front;
                if (isWithinBlock && (front & cellsOfGroup(home)) != 0) {
                    return true;
                }
            }
            return false;
        }

        /** Returns the cells that share a block, or else a group, with one of some. */
        static int besides(int cells, boolean isWithinBlock) {
            int all = 0;
            for (int cell = 0; cell < CELLS; cell++) {
                if (has(cells, cell)) {
                    all |= isWithinBlock ? cellsOfBlock(cell) : cellsOfGroup(cell);
                }
            }
            return all;
        }

        static int cellsOfBlock(int cell) {
            return CELLS_OF_FIRST_BLOCK << (cell - cell % GROUPS);
        }

        static int cellsOfGroup(int cell) {
            return CELLS_OF_FIRST_GROUP << (cell % GROUPS);
        }
    }
}
