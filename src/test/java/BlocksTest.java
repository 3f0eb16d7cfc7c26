import java.util.NoSuchElementException;

/** Promises 1 to 7: a new object, addBlock, addAddress, split, join, addRecord, blockOf. */
public final class BlocksTest {
    private static final Class<?> INDEX = IndexOutOfBoundsException.class;
    private static final Class<?> ARGUMENT = IllegalArgumentException.class;
    private static final Class<?> STATE = IllegalStateException.class;
    private static final Class<?> ELEMENT = NoSuchElementException.class;

    private static CensusLoom withBlocks(int blocks) {
        CensusLoom loom = new CensusLoom();
        for (int block = 0; block < blocks; block++) {
            loom.addBlock();
        }
        return loom;
    }

    private static void newObject() {
        CensusLoom loom = new CensusLoom();
        Check.due("new: count(0, 0)", () -> loom.count(0, 0), INDEX);
        Check.due("new: blockOf(0)", () -> loom.blockOf(0), INDEX);
        Check.due("new: isDouble(0)", () -> loom.isDouble(0), ELEMENT);
        Check.due("new: stateOf(0)", () -> loom.stateOf(0), ELEMENT);
        Check.due("new: matches()", loom::matches, 0);
        Check.due("new: openPairs()", loom::openPairs, 0);
        Check.due("new: isSafe()", loom::isSafe, true);
        loom.addBlock();
        loom.addAddress(0);
        loom.addRecord('c', 0, 1, 1);
        CensusLoom other = new CensusLoom();
        Check.due("another new one stands alone", () -> other.count(0, 0), INDEX);
    }

    private static void addBlock() {
        CensusLoom loom = new CensusLoom();
        for (int block = 0; block < 6; block++) {
            Check.due("addBlock " + block, loom::addBlock, block);
            int added = block;
            Check.due("the new block counts nobody", () -> loom.count(added, 0), 0);
        }
        Check.due("a 7th block", loom::addBlock, STATE);
        Check.due("no 7th block is there", () -> loom.count(6, 0), INDEX);
    }

    private static void addAddress() {
        CensusLoom loom = withBlocks(3);
        Check.due("addAddress(-1)", () -> loom.addAddress(-1), INDEX);
        Check.due("addAddress(3)", () -> loom.addAddress(3), INDEX);
        for (int address = 0; address < 20; address++) {
            int block = address % 3;
            Check.due("addAddress " + address, () -> loom.addAddress(block), address);
        }
        Check.due("a 21st address", () -> loom.addAddress(2), STATE);
        Check.due("a 21st address in no block", () -> loom.addAddress(3), INDEX);
        Check.due("blockOf(19)", () -> loom.blockOf(19), 1);
        Check.due("blockOf(20)", () -> loom.blockOf(20), INDEX);
    }

    private static void split() {
        CensusLoom loom = withBlocks(2);
        for (int address = 0; address < 8; address++) {
            loom.addAddress(address % 2);
        }
        Check.due("split(2, 0)", () -> loom.split(2, 0), INDEX);
        Check.due("split(-1, 0)", () -> loom.split(-1, 0), INDEX);
        Check.due("split(0, 1): an address of another block", () -> loom.split(0, 1), ELEMENT);
        Check.due("split(0, 8): no address", () -> loom.split(0, 8), ELEMENT);
        Check.due("split(0, -1): no address", () -> loom.split(0, -1), ELEMENT);
        Check.due("split(0, 4)", () -> loom.split(0, 4), 2);
        int[] blocks = {0, 1, 0, 1, 2, 1, 2, 1};
        for (int address = 0; address < 8; address++) {
            int asked = address;
            Check.due("blockOf after split " + address, () -> loom.blockOf(asked), blocks[address]);
        }
        Check.due("split(0, 0): all go", () -> loom.split(0, 0), 3);
        Check.due("nothing is left there", () -> loom.split(0, 0), ELEMENT);
        Check.due("split(3, 2): only the last one goes", () -> loom.split(3, 2), 4);
        Check.due("blockOf(0)", () -> loom.blockOf(0), 3);
        Check.due("blockOf(2)", () -> loom.blockOf(2), 4);
        Check.due("addBlock()", loom::addBlock, 5);
        Check.due("split with 6 blocks", () -> loom.split(1, 3), STATE);
        Check.due("split with 6 blocks, no such address first", () -> loom.split(1, 0), ELEMENT);
        Check.due("split with 6 blocks, no such block first", () -> loom.split(6, 99), INDEX);
        Check.due("a refused split moves nothing", () -> loom.blockOf(3), 1);
    }

    private static void join() {
        CensusLoom loom = withBlocks(3);
        for (int address = 0; address < 7; address++) {
            loom.addAddress(address % 2);
        }
        loom.addRecord('c', 1, 1, 5);
        Check.due("join(0, 3)", () -> loom.join(0, 3), INDEX);
        Check.due("join(3, 0)", () -> loom.join(3, 0), INDEX);
        Check.due("join(-1, -1): no block comes first", () -> loom.join(-1, -1), INDEX);
        Check.due("join(1, 1)", () -> loom.join(1, 1), ARGUMENT);
        Check.due("join(1, 0)", () -> loom.join(1, 0), 3);
        Check.due("blockOf(5)", () -> loom.blockOf(5), 0);
        Check.due("blockOf(0)", () -> loom.blockOf(0), 0);
        Check.due("the records go along", () -> loom.count(0, 0), 1);
        Check.due("and are there no more", () -> loom.count(1, 0), 0);
        Check.due("join(1, 2): nothing goes", () -> loom.join(1, 2), 0);
        Check.due("join(0, 1): all go", () -> loom.join(0, 1), 7);
        Check.due("the joined block stays: addBlock()", loom::addBlock, 3);
        Check.due("the joined block takes addresses", () -> loom.addAddress(0), 7);
        Check.due("blockOf(7)", () -> loom.blockOf(7), 0);
    }

    private static void addRecord() {
        CensusLoom loom = withBlocks(1);
        loom.addAddress(0);
        Check.due("no such list", () -> loom.addRecord('x', 0, 0, 0), ARGUMENT);
        Check.due("no such list 'C'", () -> loom.addRecord('C', 0, 0, 0), ARGUMENT);
        Check.due("no such list, no address", () -> loom.addRecord('x', 1, 0, 0), ARGUMENT);
        Check.due("name -1", () -> loom.addRecord('c', 0, -1, 0), ARGUMENT);
        Check.due("name 1000", () -> loom.addRecord('c', 0, 1000, 0), ARGUMENT);
        Check.due("year -1", () -> loom.addRecord('c', 0, 0, -1), ARGUMENT);
        Check.due("year 121, no address", () -> loom.addRecord('k', 9, 0, 121), ARGUMENT);
        Check.due("no address", () -> loom.addRecord('c', 1, 0, 0), INDEX);
        Check.due("no address -1", () -> loom.addRecord('k', -1, 0, 0), INDEX);
        Check.due("nothing was added", () -> loom.isDouble(0), ELEMENT);
        Check.due("name 0, year 0", () -> loom.addRecord('c', 0, 0, 0), 0);
        Check.due("name 999, year 120", () -> loom.addRecord('k', 0, 999, 120), 1);
        for (int record = 2; record < 40; record++) {
            int name = record * 20;
            Check.due("record " + record, () -> loom.addRecord('c', 0, name, 30), record);
        }
        Check.due("a 41st record", () -> loom.addRecord('c', 0, 0, 0), STATE);
        Check.due("a 41st record, no address", () -> loom.addRecord('c', 1, 0, 0), INDEX);
        Check.due("a 41st record, no list", () -> loom.addRecord('y', 1, 0, 0), ARGUMENT);
        Check.due("record 40 is not there", () -> loom.isDouble(40), ELEMENT);
    }

    private static void blockOf() {
        CensusLoom loom = withBlocks(2);
        loom.addAddress(1);
        Check.due("blockOf(0)", () -> loom.blockOf(0), 1);
        Check.due("blockOf(1)", () -> loom.blockOf(1), INDEX);
        Check.due("blockOf(-1)", () -> loom.blockOf(-1), INDEX);
        Check.due("blockOf(lowest)", () -> loom.blockOf(Integer.MIN_VALUE), INDEX);
        Check.due("blockOf(highest)", () -> loom.blockOf(Integer.MAX_VALUE), INDEX);
    }

    public static void main(String[] args) {
        newObject();
        addBlock();
        addAddress();
        split();
        join();
        addRecord();
        blockOf();
        Check.end();
    }
}
