import java.util.Random;

/** Long runs of calls by lot, with the same seeds each time, on the class and on the model: all answers agree. */
public final class AgainstModelTest {
    private static final int RUNS = 400;
    private static final int CALLS = 512;

    private final Random lot;
    private final CensusLoom loom = new CensusLoom();
    private final Model model = new Model();
    private final StringBuilder story = new StringBuilder();
    private final int years;
    private final int names;
    private final int adds;

    private AgainstModelTest(int seed) {
        lot = new Random(seed);
        years = lot.nextBoolean() ? 120 : 4 + lot.nextInt(80);
        names = lot.nextBoolean() ? 1000 : 1 + lot.nextInt(300);
        adds = 3 + lot.nextInt(8);
    }

    /** Mostly from 0 up to below the limit, now and then beside it. */
    private int about(int limit) {
        if (lot.nextInt(60) == 0) {
            return lot.nextInt(4) == 0 ? (lot.nextBoolean() ? Integer.MIN_VALUE : Integer.MAX_VALUE)
                    : lot.nextBoolean() ? -1 : limit;
        }
        return limit <= 0 ? 0 : lot.nextInt(limit);
    }

    private char oneOf(String chars) {
        return lot.nextInt(60) == 0 ? (char) lot.nextInt(256) : chars.charAt(lot.nextInt(chars.length()));
    }

    private void run(int run) {
        for (int call = 0; call < CALLS && !Check.hasWrong(); call++) {
            int kind = lot.nextInt(100);
            if (kind < 40 || call < 12 && kind < 90) {
                change(run);
            } else {
                ask(run);
            }
        }
    }

    private void compare(int run, String call, Check.Call asked, Check.Call due) {
        Object want = Check.outcome(due);
        story.append(call).append(" -> ").append(want).append('\n');
        Check.due("run " + run + ": " + call, asked, want);
        if (Check.hasWrong()) {
            System.out.println(story);
        }
    }

    private void change(int run) {
        int kind = lot.nextInt(16 + 2 * adds);
        int block = about(model.blocks);
        int other = about(model.blocks);
        int address = about(model.blockOf.size());
        int record = about(model.people.size());
        int partner = about(model.people.size());
        boolean flag = lot.nextBoolean();
        if (kind == 0 && lot.nextInt(3) == 0 || model.blocks < 2) {
            compare(run, "addBlock()", loom::addBlock, model::addBlock);
        } else if (kind <= 2) {
            compare(run, "addAddress " + block, () -> loom.addAddress(block), () -> model.addAddress(block));
        } else if (kind == 3 && lot.nextInt(3) == 0) {
            int from = lot.nextInt(5) == 0 || address < 0 || address >= model.blockOf.size() ? block
                    : model.blockOf.get(address);
            compare(run, "split " + from + " " + address, () -> loom.split(from, address),
                    () -> model.split(from, address));
        } else if (kind == 4 && lot.nextInt(3) == 0) {
            compare(run, "join " + block + " " + other, () -> loom.join(block, other), () -> model.join(block, other));
        } else if (kind == 5 && lot.nextInt(3) == 0) {
            char part = oneOf("nyp");
            int value = about(10);
            compare(run, "setPoints " + part + " " + value, () -> loom.setPoints(part, value),
                    () -> model.setPoints(part, value));
        } else if (kind == 6 && lot.nextInt(3) == 0) {
            int low = lot.nextInt(4) == 0 ? about(31) : lot.nextInt(10);
            int high = lot.nextInt(4) == 0 ? about(31) : low + lot.nextInt(8);
            compare(run, "setBounds " + low + " " + high, () -> loom.setBounds(low, high),
                    () -> model.setBounds(low, high));
        } else if (kind <= 10) {
            compare(run, "decide " + record + " " + partner + " " + flag, () -> loom.decide(record, partner, flag),
                    () -> model.decide(record, partner, flag));
        } else if (kind <= 12) {
            takeBack(run, record, partner);
        } else if (kind == 13) {
            compare(run, "tell()", loom::tell, model::tell);
        } else {
            addRecord(run, address);
        }
    }

    private void takeBack(int run, int record, int partner) {
        int[] pair = {record, partner};
        if (!model.decisions.isEmpty() && lot.nextInt(4) != 0) {
            Object[] keys = model.decisions.keySet().stream().sorted().toArray();
            String[] ends = ((String) keys[lot.nextInt(keys.length)]).split("-");
            int turn = lot.nextInt(2);
            pair[turn] = Integer.parseInt(ends[0]);
            pair[1 - turn] = Integer.parseInt(ends[1]);
        }
        compare(run, "takeBack " + pair[0] + " " + pair[1], () -> loom.takeBack(pair[0], pair[1]),
                () -> model.takeBack(pair[0], pair[1]));
    }

    private void addRecord(int run, int address) {
        char list = lot.nextInt(3) == 0 ? 'k' : oneOf("cccck");
        int name = lot.nextInt(40) == 0 ? about(1000) : lot.nextInt(names);
        int year = lot.nextInt(40) == 0 ? about(121) : lot.nextInt(years + 1);
        compare(run, "addRecord " + list + " " + address + " " + name + " " + year,
                () -> loom.addRecord(list, address, name, year), () -> model.addRecord(list, address, name, year));
    }

    private void ask(int run) {
        int kind = lot.nextInt(26);
        int record = about(model.people.size());
        int other = about(model.people.size());
        int address = about(model.blockOf.size());
        int block = about(model.blocks);
        int group = about(4);
        int table = about(model.tables.size());
        int index = about(50);
        String cell = " " + table + " " + block + " " + group;
        switch (kind) {
            case 0 -> compare(run, "blockOf " + address, () -> loom.blockOf(address), () -> model.blockOf(address));
            case 1 -> compare(run, "score " + record + " " + other, () -> loom.score(record, other),
                    () -> model.score(record, other));
            case 2 -> compare(run, "link " + record + " " + other, () -> loom.link(record, other),
                    () -> model.link(record, other));
            case 3 -> compare(run, "openPairs()", loom::openPairs, model::openPairs);
            case 4 -> compare(run, "isDouble " + record, () -> loom.isDouble(record), () -> model.isDouble(record));
            case 5, 6 -> compare(run, "matchOf " + record, () -> loom.matchOf(record), () -> model.matchOf(record));
            case 7 -> compare(run, "matches()", loom::matches, model::matches);
            case 8 -> compare(run, "count " + block + " " + group, () -> loom.count(block, group),
                    () -> model.count(block, group));
            case 9 -> compare(run, "countAnew " + block + " " + group, () -> loom.countAnew(block, group),
                    () -> model.count(block, group));
            case 10 -> compare(run, "estimate()", loom::estimate, model::estimate);
            case 11 -> compare(run, "doubleShare()", loom::doubleShare, model::doubleShare);
            case 12 -> compare(run, "meanScore()", loom::meanScore, model::meanScore);
            case 13 -> compare(run, "stateOf " + table, () -> loom.stateOf(table), () -> model.stateOf(table));
            case 14, 15 -> compare(run, "isHidden" + cell, () -> loom.isHidden(table, block, group),
                    () -> model.isHidden(table, block, group));
            case 16 -> compare(run, "cell" + cell, () -> loom.cell(table, block, group),
                    () -> model.cell(table, block, group));
            case 17 -> compare(run, "blockSum " + table + " " + block, () -> loom.blockSum(table, block),
                    () -> model.blockSum(table, block));
            case 18 -> compare(run, "groupSum " + table + " " + group, () -> loom.groupSum(table, group),
                    () -> model.groupSum(table, group));
            case 19 -> compare(run, "holes " + table, () -> loom.holes(table), () -> model.holes(table));
            case 20 -> compare(run, "isAtRisk" + cell, () -> loom.isAtRisk(table, block, group),
                    () -> model.isAtRisk(table, block, group));
            case 21 -> compare(run, "found " + table, () -> loom.found(table), () -> model.found(table));
            case 22 -> compare(run, "foundByWays " + table, () -> loom.foundByWays(table), () -> model.found(table));
            case 23 -> compare(run, "lineLength " + table, () -> loom.lineLength(table),
                    () -> model.lineLength(table));
            case 24 -> compare(run, "lineAt " + table + " " + index, () -> loom.lineAt(table, index),
                    () -> model.lineAt(table, index));
            default -> compare(run, "isSafe()", loom::isSafe, () -> true);
        }
    }

    public static void main(String[] args) {
        int told = 0;
        int helping = 0;
        int plain = 0;
        for (int run = 0; run < RUNS && !Check.hasWrong(); run++) {
            AgainstModelTest test = new AgainstModelTest(run);
            test.run(run);
            told += test.model.tables.size();
            helping += test.model.helpingHides;
            plain += test.model.plainHides;
        }
        System.out.println(told + " tables told, " + helping + " cells hidden that helped at once, " + plain
                + " that did not");
        int tables = told;
        int plains = plain;
        Check.due("enough tables were told", () -> tables > RUNS && plains > 0, true);
        Check.end();
    }
}
