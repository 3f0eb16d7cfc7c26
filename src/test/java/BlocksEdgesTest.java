import java.util.NoSuchElementException;

/**
 * The boundary cases of "Blocks, addresses, records" and of the promises 1 to 7: a function for each sentence, which
 * stands above it, and the promise's number in each call's name.
 */
public final class BlocksEdgesTest {
    private static final Class<?> INDEX = IndexOutOfBoundsException.class;
    private static final Class<?> ARGUMENT = IllegalArgumentException.class;
    private static final Class<?> STATE = IllegalStateException.class;
    private static final Class<?> ELEMENT = NoSuchElementException.class;
    private static final int LOW = Integer.MIN_VALUE;
    private static final int TOP = Integer.MAX_VALUE;
    private static final Views EMPTY = new Views(CensusLoom::new);
    private static final Views SOME = new Views(Towns::some);
    private static final Views FULL = new Views(Towns::full);

    /** "Creates a count without blocks, addresses, records and tables." */
    private static void promise1NothingIsThere() {
        EMPTY.refuse("1: no block 0", loom -> loom.addAddress(0), INDEX);
        EMPTY.refuse("1: no block 0 to split", loom -> loom.split(0, 0), INDEX);
        EMPTY.refuse("1: no blocks to join", loom -> loom.join(0, 1), INDEX);
        EMPTY.refuse("1: no block to count", loom -> loom.count(0, 0), INDEX);
        EMPTY.refuse("1: no block to count anew", loom -> loom.countAnew(0, 0), INDEX);
        EMPTY.refuse("1: no address 0", loom -> loom.blockOf(0), INDEX);
        EMPTY.refuse("1: no address for a record", loom -> loom.addRecord('c', 0, 0, 0), INDEX);
        EMPTY.refuse("1: no records to score", loom -> loom.score(0, 1), ELEMENT);
        EMPTY.refuse("1: no records to link", loom -> loom.link(0, 1), ELEMENT);
        EMPTY.refuse("1: no records to decide on", loom -> loom.decide(0, 1, true), ELEMENT);
        EMPTY.refuse("1: no records to take back", loom -> loom.takeBack(0, 1), ELEMENT);
        EMPTY.refuse("1: no record 0: isDouble", loom -> loom.isDouble(0), ELEMENT);
        EMPTY.refuse("1: no record 0: matchOf", loom -> loom.matchOf(0), ELEMENT);
        EMPTY.refuse("1: no estimate", CensusLoom::estimate, ArithmeticException.class);
        EMPTY.refuse("1: no share of doubles", CensusLoom::doubleShare, ArithmeticException.class);
        EMPTY.refuse("1: no mean score", CensusLoom::meanScore, ArithmeticException.class);
        EMPTY.refuse("1: too few blocks for a table", CensusLoom::tell, STATE);
        EMPTY.refuse("1: no table 0: stateOf", loom -> loom.stateOf(0), ELEMENT);
        EMPTY.refuse("1: no table 0: isHidden", loom -> loom.isHidden(0, 0, 0), ELEMENT);
        EMPTY.refuse("1: no table 0: cell", loom -> loom.cell(0, 0, 0), ELEMENT);
        EMPTY.refuse("1: no table 0: blockSum", loom -> loom.blockSum(0, 0), ELEMENT);
        EMPTY.refuse("1: no table 0: groupSum", loom -> loom.groupSum(0, 0), ELEMENT);
        EMPTY.refuse("1: no table 0: holes", loom -> loom.holes(0), ELEMENT);
        EMPTY.refuse("1: no table 0: isAtRisk", loom -> loom.isAtRisk(0, 0, 0), ELEMENT);
        EMPTY.refuse("1: no table 0: found", loom -> loom.found(0), ELEMENT);
        EMPTY.refuse("1: no table 0: foundByWays", loom -> loom.foundByWays(0), ELEMENT);
        EMPTY.refuse("1: no table 0: lineLength", loom -> loom.lineLength(0), ELEMENT);
        EMPTY.refuse("1: no table 0: lineAt", loom -> loom.lineAt(0, 0), ELEMENT);
        CensusLoom loom = new CensusLoom();
        Check.due("1: no open pairs", loom::openPairs, 0);
        Check.due("1: no matches", loom::matches, 0);
        Check.due("1: safe", loom::isSafe, true);
    }

    /** "each numbered from 0": the first of each kind has the number 0, the next one 1. */
    private static void termsNumbersFromZero() {
        CensusLoom loom = new CensusLoom();
        Check.due("2: the first block", loom::addBlock, 0);
        Check.due("2: the next block", loom::addBlock, 1);
        Check.due("3: the first address", () -> loom.addAddress(1), 0);
        Check.due("3: the next address", () -> loom.addAddress(0), 1);
        Check.due("6: the first record", () -> loom.addRecord('k', 0, 0, 0), 0);
        Check.due("6: the next record, of the other list", () -> loom.addRecord('c', 1, 500, 50), 1);
        Check.due("4: the block behind these", () -> loom.split(1, 0), 2);
    }

    /** Promise 2, "Adds a block without addresses". */
    private static void promise2NewBlockIsEmpty() {
        CensusLoom loom = Towns.some();
        Check.due("2: addBlock", loom::addBlock, 3);
        for (int address = 0; address < 4; address++) {
            int asked = address;
            Check.due("2: no address in the new block", () -> loom.split(3, asked), ELEMENT);
        }
        Check.due("2: none goes with a join", () -> loom.join(3, 0), 0);
    }

    /** Promise 2, "Throws IllegalStateException if there are 6 blocks"; Terms, "At most 6 blocks". */
    private static void promise2SixBlocks() {
        CensusLoom loom = Towns.blocks(5);
        Check.due("2: the 6th block is taken", loom::addBlock, 5);
        new Views(() -> Towns.blocks(6)).refuse("2: the 7th is not", CensusLoom::addBlock, STATE);
        FULL.refuse("2: the 7th is not, on a full object", CensusLoom::addBlock, STATE);
        CensusLoom split = Towns.addresses(5, 0, 0);
        Check.due("2: a 6th block by split", () -> split.split(0, 1), 5);
        Check.due("2: no 7th behind a split", split::addBlock, STATE);
        CensusLoom joined = Towns.addresses(6, 0, 1);
        joined.join(0, 1);
        Check.due("2: no 7th behind a join, as the joined block stays", joined::addBlock, STATE);
    }

    /** Promise 3, "Throws IndexOutOfBoundsException if there is no such block". */
    private static void promise3Blocks() {
        for (int block : new int[] {LOW, -1, 3, 5, 6, TOP}) {
            SOME.refuse("3: no block " + block, loom -> loom.addAddress(block), INDEX);
        }
        for (int block : new int[] {0, 1, 2}) {
            CensusLoom loom = Towns.some();
            Check.due("3: block " + block, () -> loom.addAddress(block), 4);
            Check.due("3: the address is in it", () -> loom.blockOf(4), block);
        }
        CensusLoom six = Towns.blocks(6);
        Check.due("3: the last of 6 blocks", () -> six.addAddress(5), 0);
        Check.due("3: beyond 6 blocks", () -> six.addAddress(6), INDEX);
        CensusLoom joined = Towns.town();
        joined.join(0, 1);
        Check.due("3: a joined block takes an address", () -> joined.addAddress(0), 3);
    }

    private static CensusLoom nineteenAddresses() {
        CensusLoom loom = Towns.blocks(2);
        for (int address = 0; address < 19; address++) {
            loom.addAddress(address % 2);
        }
        return loom;
    }

    private static CensusLoom twentyAddresses() {
        CensusLoom loom = nineteenAddresses();
        loom.addAddress(0);
        return loom;
    }

    /** Promise 3, "Throws IllegalStateException if there are 20 addresses"; Terms, "20 addresses". */
    private static void promise3TwentyAddresses() {
        CensusLoom loom = nineteenAddresses();
        Check.due("3: the 20th address is taken", () -> loom.addAddress(1), 19);
        Check.due("3: it is in its block", () -> loom.blockOf(19), 1);
        Views twenty = new Views(BlocksEdgesTest::twentyAddresses);
        twenty.refuse("3: the 21st is not, in block 0", town -> town.addAddress(0), STATE);
        twenty.refuse("3: the 21st is not, in block 1", town -> town.addAddress(1), STATE);
        FULL.refuse("3: the 21st is not, on a full object", town -> town.addAddress(5), STATE);
    }

    /** Promise 3: no such block comes before 20 addresses. */
    private static void promise3Pair() {
        FULL.refuse("3: block before addresses", loom -> loom.addAddress(6), INDEX);
        FULL.refuse("3: block before addresses, below", loom -> loom.addAddress(-1), INDEX);
    }

    /** Promise 4, "Throws IndexOutOfBoundsException if there is no such block". */
    private static void promise4Blocks() {
        for (int block : new int[] {LOW, -1, 3, 6, TOP}) {
            SOME.refuse("4: no block " + block, loom -> loom.split(block, 0), INDEX);
        }
        CensusLoom first = Towns.some();
        Check.due("4: the first block", () -> first.split(0, 0), 3);
        CensusLoom last = Towns.some();
        Check.due("4: the last block", () -> last.split(2, 3), 3);
    }

    /** Promise 4, "Throws NoSuchElementException if there is no such address in the block". */
    private static void promise4Addresses() {
        // In some(), the addresses 0 and 2 are in block 0, 1 in block 1 and 3 in block 2.
        for (int address : new int[] {LOW, -1, 1, 3, 4, 19, 20, TOP}) {
            SOME.refuse("4: not in block 0: " + address, loom -> loom.split(0, address), ELEMENT);
        }
        for (int address : new int[] {-1, 0, 2, 3, 4}) {
            SOME.refuse("4: not in block 1: " + address, loom -> loom.split(1, address), ELEMENT);
        }
        CensusLoom loom = nineteenAddresses();
        Check.due("4: behind the last address, which is 18", () -> loom.split(0, 19), ELEMENT);
        Check.due("4: a row's end is no address", () -> loom.split(0, 20), ELEMENT);
        Check.due("4: the last address", () -> loom.split(0, 18), 2);
        CensusLoom empty = Towns.blocks(2);
        Check.due("4: an empty block", () -> empty.split(0, 0), ELEMENT);
        CensusLoom joined = Towns.town();
        joined.join(0, 1);
        Check.due("4: no address in a joined block", () -> joined.split(0, 0), ELEMENT);
        Check.due("4: it is in the other one now", () -> joined.split(1, 0), 2);
    }

    private static String blocksOf(CensusLoom loom, int addresses) {
        StringBuilder text = new StringBuilder();
        for (int address = 0; address < addresses; address++) {
            text.append(loom.blockOf(address));
        }
        return text.toString();
    }

    /** Promise 4, "its addresses from a number on go into a new block"; "the lowest number of an address that goes". */
    private static void promise4WhatGoes() {
        int[] blocks = {0, 1, 0, 1, 0, 1};
        CensusLoom lowest = Towns.addresses(2, blocks);
        Check.due("4: from the lowest one on", () -> lowest.split(0, 0), 2);
        Check.due("4: all of them go, and no others", () -> blocksOf(lowest, 6), "212121");
        CensusLoom highest = Towns.addresses(2, blocks);
        Check.due("4: from the highest one on", () -> highest.split(0, 4), 2);
        Check.due("4: only that one goes", () -> blocksOf(highest, 6), "010121");
        CensusLoom middle = Towns.addresses(2, blocks);
        Check.due("4: from one between on", () -> middle.split(1, 3), 2);
        Check.due("4: that one and the next ones go", () -> blocksOf(middle, 6), "010202");
        Check.due("4: a split of the new block", () -> middle.split(2, 5), 3);
        Check.due("4: only its last one goes", () -> blocksOf(middle, 6), "010203");
    }

    /** Promise 4, "Throws IllegalStateException if there are 6 blocks". */
    private static void promise4SixBlocks() {
        CensusLoom five = Towns.addresses(5, 4, 4);
        Check.due("4: with 5 blocks there is a 6th", () -> five.split(4, 1), 5);
        Check.due("4: it has the address", () -> five.blockOf(1), 5);
        new Views(() -> Towns.addresses(6, 4, 4)).refuse("4: with 6 there is no 7th", loom -> loom.split(4, 1), STATE);
        FULL.refuse("4: no 7th on a full object", loom -> loom.split(0, 0), STATE);
    }

    /** Promise 4: no such block comes before no such address, and both before 6 blocks. */
    private static void promise4Pairs() {
        SOME.refuse("4: block before address", loom -> loom.split(3, 99), INDEX);
        SOME.refuse("4: block before address, below", loom -> loom.split(-1, -1), INDEX);
        FULL.refuse("4: block before 6 blocks", loom -> loom.split(6, 0), INDEX);
        FULL.refuse("4: block before all", loom -> loom.split(6, 20), INDEX);
        FULL.refuse("4: address before 6 blocks", loom -> loom.split(0, 20), ELEMENT);
        FULL.refuse("4: another block's address before 6 blocks", loom -> loom.split(0, 1), ELEMENT);
    }

    /** Promise 5, "Throws IndexOutOfBoundsException if there is no such block, for either". */
    private static void promise5Blocks() {
        for (int block : new int[] {LOW, -1, 3, 6, TOP}) {
            SOME.refuse("5: no block " + block, loom -> loom.join(block, 0), INDEX);
            SOME.refuse("5: no other block " + block, loom -> loom.join(0, block), INDEX);
        }
        CensusLoom loom = Towns.some();
        Check.due("5: from the first to the last", () -> loom.join(0, 2), 2);
        CensusLoom back = Towns.some();
        Check.due("5: from the last to the first", () -> back.join(2, 0), 1);
    }

    /** Promise 5, "Throws IllegalArgumentException if both are the same". */
    private static void promise5Same() {
        SOME.refuse("5: the first with itself", loom -> loom.join(0, 0), ARGUMENT);
        SOME.refuse("5: the last with itself", loom -> loom.join(2, 2), ARGUMENT);
        FULL.refuse("5: an empty one with itself", loom -> loom.join(5, 5), ARGUMENT);
    }

    /** Promise 5: no such block comes before both being the same. */
    private static void promise5Pair() {
        SOME.refuse("5: block before the same", loom -> loom.join(3, 3), INDEX);
        SOME.refuse("5: block before the same, below", loom -> loom.join(-1, -1), INDEX);
        EMPTY.refuse("5: block before the same, empty", loom -> loom.join(0, 0), INDEX);
    }

    /** Promise 5, "Returns the number of addresses that go": none, one, all 20. */
    private static void promise5HowManyGo() {
        CensusLoom loom = twentyAddresses();
        loom.addBlock();
        Check.due("5: none of an empty block", () -> loom.join(2, 0), 0);
        Check.due("5: nothing changed by that", () -> blocksOf(loom, 20), "01010101010101010100");
        Check.due("5: the nine of block 1", () -> loom.join(1, 2), 9);
        Check.due("5: the eleven of block 0", () -> loom.join(0, 2), 11);
        Check.due("5: all 20", () -> loom.join(2, 1), 20);
        Check.due("5: all are there", () -> blocksOf(loom, 20), "11111111111111111111");
        Check.due("5: none a second time", () -> loom.join(2, 1), 0);
    }

    /** Promise 6, "Throws IllegalArgumentException if there is no such list"; Terms, "'c', or of the check, 'k'". */
    private static void promise6Lists() {
        for (char list : new char[] {0, 'C', 'K', 'b', 'd', 'j', 'l', ' ', 'c' + 256, 'k' + 256, Character.MAX_VALUE}) {
            SOME.refuse("6: no list " + (int) list, loom -> loom.addRecord(list, 0, 0, 0), ARGUMENT);
        }
        CensusLoom census = Towns.some();
        Check.due("6: list c", () -> census.addRecord('c', 2, 999, 120), 18);
        Check.due("6: it is counted", () -> census.count(0, 3), 3);
        CensusLoom check = Towns.some();
        Check.due("6: list k", () -> check.addRecord('k', 2, 999, 120), 18);
        Check.due("6: it is not counted", () -> check.count(0, 3), 2);
    }

    /** Promise 6, "or the name .. is out of range"; Terms, "a name, which is a number from 0 to 999". */
    private static void promise6Names() {
        for (int name : new int[] {LOW, -1, 1000, TOP}) {
            SOME.refuse("6: census, no name " + name, loom -> loom.addRecord('c', 0, name, 50), ARGUMENT);
            SOME.refuse("6: check, no name " + name, loom -> loom.addRecord('k', 0, name, 50), ARGUMENT);
        }
        for (int name : new int[] {0, 1, 998, 999}) {
            CensusLoom loom = Towns.town();
            Check.due("6: census, name " + name, () -> loom.addRecord('c', 0, name, 50), 0);
            Check.due("6: check, name " + name, () -> loom.addRecord('k', 2, name, 90), 1);
            Check.due("6: the name is kept", () -> loom.score(0, 1), 5);
        }
    }

    /** Promise 6, "or .. the year is out of range"; Terms, "a year from 0 to 120". */
    private static void promise6Years() {
        for (int year : new int[] {LOW, -1, 121, TOP}) {
            SOME.refuse("6: census, no year " + year, loom -> loom.addRecord('c', 0, 5, year), ARGUMENT);
            SOME.refuse("6: check, no year " + year, loom -> loom.addRecord('k', 0, 5, year), ARGUMENT);
        }
        for (int year : new int[] {0, 1, 119, 120}) {
            CensusLoom loom = Towns.town();
            Check.due("6: census, year " + year, () -> loom.addRecord('c', 0, 100, year), 0);
            Check.due("6: check, year " + year, () -> loom.addRecord('k', 2, 900, year), 1);
            Check.due("6: the year is kept", () -> loom.score(0, 1), 4);
        }
    }

    /** Promise 6, "Throws IndexOutOfBoundsException if there is no such address". */
    private static void promise6Addresses() {
        for (int address : new int[] {LOW, -1, 4, 20, TOP}) {
            SOME.refuse("6: census, no address " + address, loom -> loom.addRecord('c', address, 0, 0), INDEX);
            SOME.refuse("6: check, no address " + address, loom -> loom.addRecord('k', address, 0, 0), INDEX);
        }
        CensusLoom loom = twentyAddresses();
        Check.due("6: the first address", () -> loom.addRecord('c', 0, 0, 0), 0);
        Check.due("6: the last address", () -> loom.addRecord('c', 19, 0, 0), 1);
        Check.due("6: beyond 20 addresses", () -> loom.addRecord('c', 20, 0, 0), INDEX);
    }

    private static CensusLoom records(int number) {
        CensusLoom loom = Towns.town();
        for (int record = 0; record < number; record++) {
            loom.addRecord(record % 3 == 0 ? 'k' : 'c', record % 3, record * 20, record * 3);
        }
        return loom;
    }

    /** Promise 6, "Throws IllegalStateException if there are 40 records"; Terms, "40 records". */
    private static void promise6FortyRecords() {
        CensusLoom census = records(39);
        Check.due("6: the 40th record is taken, census", () -> census.addRecord('c', 0, 999, 0), 39);
        Check.due("6: it is counted", () -> census.isDouble(39), false);
        CensusLoom check = records(39);
        Check.due("6: the 40th record is taken, check", () -> check.addRecord('k', 0, 999, 0), 39);
        Check.due("6: it is there", () -> check.score(38, 39), 0);
        Views forty = new Views(() -> records(40));
        forty.refuse("6: the 41st is not, census", loom -> loom.addRecord('c', 0, 0, 0), STATE);
        forty.refuse("6: the 41st is not, check", loom -> loom.addRecord('k', 2, 999, 120), STATE);
        FULL.refuse("6: the 41st is not, on a full object", loom -> loom.addRecord('c', 19, 0, 0), STATE);
    }

    /** Promise 6: no such list, name or year comes before no such address, and all before 40 records. */
    private static void promise6Pairs() {
        SOME.refuse("6: list before address", loom -> loom.addRecord('x', 4, 0, 0), ARGUMENT);
        SOME.refuse("6: name before address", loom -> loom.addRecord('c', 4, 1000, 0), ARGUMENT);
        SOME.refuse("6: year before address", loom -> loom.addRecord('c', -1, 0, 121), ARGUMENT);
        EMPTY.refuse("6: list before address, empty", loom -> loom.addRecord('x', 0, 0, 0), ARGUMENT);
        EMPTY.refuse("6: name before address, empty", loom -> loom.addRecord('c', 0, -1, 0), ARGUMENT);
        EMPTY.refuse("6: year before address, empty", loom -> loom.addRecord('k', 0, 0, -1), ARGUMENT);
        FULL.refuse("6: list before 40 records", loom -> loom.addRecord('x', 0, 0, 0), ARGUMENT);
        FULL.refuse("6: name before 40 records", loom -> loom.addRecord('c', 0, -1, 0), ARGUMENT);
        FULL.refuse("6: year before 40 records", loom -> loom.addRecord('k', 0, 0, 121), ARGUMENT);
        FULL.refuse("6: address before 40 records", loom -> loom.addRecord('c', 20, 0, 0), INDEX);
        FULL.refuse("6: address before 40 records, below", loom -> loom.addRecord('k', -1, 0, 0), INDEX);
        FULL.refuse("6: list before address and 40 records", loom -> loom.addRecord('x', 20, 0, 0), ARGUMENT);
        FULL.refuse("6: name before address and 40 records", loom -> loom.addRecord('c', 20, 1000, 0), ARGUMENT);
        FULL.refuse("6: year before address and 40 records", loom -> loom.addRecord('c', 20, 0, 121), ARGUMENT);
    }

    /** Terms, "The block of a record is that of its address": also behind a join and a split. */
    private static void termsBlockOfARecord() {
        CensusLoom loom = Towns.addresses(2, 0, 1, 0);
        loom.addRecord('c', 0, 0, 30);
        loom.addRecord('c', 2, 500, 30);
        Check.due("6: both in block 0", () -> loom.count(0, 1), 2);
        loom.split(0, 2);
        Check.due("6: the one at the address 2 goes with it", () -> loom.count(2, 1), 1);
        Check.due("6: the other one stays", () -> loom.count(0, 1), 1);
        loom.join(0, 1);
        Check.due("6: it goes with a join", () -> loom.count(1, 1), 1);
        Check.due("6: none is left", () -> loom.count(0, 1), 0);
    }

    /** Terms, "Its group is 0 up to the year 17, 1 up to 39, 2 up to 64, and 3 beyond that". */
    private static void termsGroups() {
        for (int year = 0; year <= 120; year++) {
            CensusLoom loom = Towns.town();
            loom.addRecord('c', 2, 0, year);
            int due = 0;
            due += year >= 18 ? 1 : 0;
            due += year >= 40 ? 1 : 0;
            due += year >= 65 ? 1 : 0;
            for (int group = 0; group < 4; group++) {
                int asked = group;
                Check.due("6: the year " + year, () -> loom.count(1, asked), asked == due ? 1 : 0);
                Check.due("6: the year " + year + " anew", () -> loom.countAnew(1, asked), asked == due ? 1 : 0);
            }
        }
    }

    /** Promise 7, "Throws IndexOutOfBoundsException if there is no such address". */
    private static void promise7Addresses() {
        for (int address : new int[] {LOW, -1, 4, 19, 20, TOP}) {
            SOME.refuse("7: no address " + address, loom -> loom.blockOf(address), INDEX);
        }
        for (int address : new int[] {LOW, -1, 20, 21, TOP}) {
            FULL.refuse("7: no address " + address + " of 20", loom -> loom.blockOf(address), INDEX);
        }
        Check.due("7: the first of some", () -> Towns.some().blockOf(0), 0);
        Check.due("7: the last of some", () -> Towns.some().blockOf(3), 2);
        Check.due("7: the first of 20", () -> Towns.full().blockOf(0), 0);
        Check.due("7: the last of 20", () -> Towns.full().blockOf(19), 3);
    }

    public static void main(String[] args) {
        promise1NothingIsThere();
        termsNumbersFromZero();
        promise2NewBlockIsEmpty();
        promise2SixBlocks();
        promise3Blocks();
        promise3TwentyAddresses();
        promise3Pair();
        promise4Blocks();
        promise4Addresses();
        promise4WhatGoes();
        promise4SixBlocks();
        promise4Pairs();
        promise5Blocks();
        promise5Same();
        promise5Pair();
        promise5HowManyGo();
        promise6Lists();
        promise6Names();
        promise6Years();
        promise6Addresses();
        promise6FortyRecords();
        promise6Pairs();
        termsBlockOfARecord();
        termsGroups();
        promise7Addresses();
        Check.end();
    }
}
