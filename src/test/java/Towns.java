/** Objects that tests begin with, each made anew by fewer than 100 calls. */
final class Towns {
    /** A year in each group. */
    static final int[] YEARS = {10, 30, 50, 90};

    private Towns() {
    }

    /** So many blocks, no addresses. */
    static CensusLoom blocks(int number) {
        CensusLoom loom = new CensusLoom();
        for (int block = 0; block < number; block++) {
            loom.addBlock();
        }
        return loom;
    }

    /** So many blocks, and an address in each of those that are named, in their order. */
    static CensusLoom addresses(int blocks, int... blockOfAddress) {
        CensusLoom loom = blocks(blocks);
        for (int block : blockOfAddress) {
            loom.addAddress(block);
        }
        return loom;
    }

    /** Two blocks and the addresses 0 and 1 in block 0, 2 in block 1. */
    static CensusLoom town() {
        return addresses(2, 0, 0, 1);
    }

    /** A block for each row, with one address, and as many census records by groups as the row says; none is linked. */
    static CensusLoom counts(int[]... counts) {
        CensusLoom loom = new CensusLoom();
        int name = 0;
        for (int block = 0; block < counts.length; block++) {
            loom.addBlock();
            loom.addAddress(block);
            for (int group = 0; group < 4; group++) {
                for (int person = 0; person < counts[block][group]; person++) {
                    loom.addRecord('c', block, name, YEARS[group]);
                    name += 20;
                }
            }
        }
        return loom;
    }

    static int[] row(int... counts) {
        return counts;
    }

    /** 3 blocks, 4 addresses, 14 records of the census, 4 of the check (13, 14, 16 and 17), 2 tables, 2 decisions. */
    static CensusLoom some() {
        CensusLoom loom = counts(row(0, 1, 4, 2), row(3, 2, 0, 1));
        loom.tell();
        loom.addBlock();
        loom.addAddress(0);
        loom.addAddress(2);
        loom.addRecord('k', 0, 3, 30);
        loom.addRecord('k', 1, 140, 10);
        loom.addRecord('c', 1, 141, 10);
        loom.addRecord('k', 3, 500, 60);
        loom.addRecord('k', 2, 900, 20);
        loom.decide(0, 15, false);
        loom.decide(7, 16, true);
        loom.tell();
        return loom;
    }

    /**
     * 6 blocks, 20 addresses, 40 records (those from 24 to 35 of the check) and 8 tables, the first four of them
     * undone. 2, 36, 37 and 39 are doubles; 1 and 2 are decided to be the same, 1 and 3 to be apart.
     */
    static CensusLoom full() {
        CensusLoom loom = blocks(2);
        for (int address = 0; address < 20; address++) {
            loom.addAddress(address % 2);
        }
        for (int record = 0; record < 24; record++) {
            int group = record < 16 ? record / 2 % 4 : record / 2 % 2;
            loom.addRecord('c', record % 20, record * 20, YEARS[group]);
            if (record % 8 == 7) {
                loom.tell();
            }
        }
        for (int record = 0; record < 12; record++) {
            loom.addRecord('k', record, record * 20 + record % 3, YEARS[record / 2 % 4]);
        }
        loom.split(0, 10);
        loom.tell();
        loom.split(1, 15);
        loom.addBlock();
        loom.addBlock();
        for (int record = 0; record < 4; record++) {
            loom.addRecord('c', record, record * 20, YEARS[record / 2]);
        }
        loom.decide(0, 24, false);
        loom.decide(30, 0, true);
        loom.decide(1, 3, false);
        loom.tell();
        loom.decide(1, 2, true);
        loom.tell();
        loom.tell();
        loom.tell();
        return loom;
    }

    /** The line of a table, by as many calls as it has characters, and one for each of these. */
    static String line(CensusLoom loom, int table) {
        StringBuilder text = new StringBuilder();
        int length = loom.lineLength(table);
        for (int index = 0; index < length; index++) {
            text.append(loom.lineAt(table, index));
        }
        return text.toString();
    }
}
