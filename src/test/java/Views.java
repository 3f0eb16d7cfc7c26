import java.util.ArrayList;
import java.util.List;

/**
 * All that calls can show of an object, to see that a refused call leaves it unchanged. It is looked at in parts, each
 * on an object of its own, so that none of these is used for more than the 512 calls that are promised.
 */
final class Views {
    private static final int LARGEST_PART = 400;
    private static final int TOP = Integer.MAX_VALUE;

    interface Maker {
        CensusLoom make();
    }

    interface Act {
        Object on(CensusLoom loom);
    }

    private final Maker maker;
    private final List<List<Act>> parts = new ArrayList<>();
    private final List<String> untouched = new ArrayList<>();

    Views(Maker maker) {
        this.maker = maker;
        addPart(askNumbers());
        addPart(askRecords());
        addPart(askCounts());
        addPairs((record, other) -> loom -> loom.score(record, other));
        addPairs((record, other) -> loom -> loom.link(record, other));
        addPairs((record, other) -> loom -> loom.takeBack(record, other));
        for (int table = 0; table < 8; table++) {
            addPart(askTable(table));
        }
        addPart(changeAll());
        for (List<Act> part : parts) {
            untouched.add(answers(part, maker.make()));
        }
    }

    /** The call answers with this exception, and behind it all answers are as without it. */
    void refuse(String sentence, Act act, Class<?> exception) {
        CensusLoom first = maker.make();
        Check.due(sentence, () -> act.on(first), exception);
        unchanged(sentence, act);
    }

    void unchanged(String sentence, Act act) {
        for (int i = 0; i < parts.size(); i++) {
            List<Act> part = parts.get(i);
            CensusLoom touched = maker.make();
            Check.outcome(() -> act.on(touched));
            Check.due(sentence + ": behind it, part " + i, () -> answers(part, touched), untouched.get(i));
        }
    }

    private static String answers(List<Act> part, CensusLoom loom) {
        StringBuilder text = new StringBuilder();
        for (Act ask : part) {
            Object answer = Check.outcome(() -> ask.on(loom));
            text.append(answer instanceof Class<?> thrown ? thrown.getSimpleName() : answer).append(' ');
        }
        return text.toString();
    }

    private void addPart(List<Act> part) {
        if (part.size() > LARGEST_PART) {
            throw new IllegalStateException("this part is too large for one object");
        }
        parts.add(part);
    }

    private interface OfPair {
        Act ask(int record, int other);
    }

    private void addPairs(OfPair ofPair) {
        for (int start = 0; start < 40; start += 10) {
            List<Act> part = new ArrayList<>();
            for (int record = start; record < start + 10; record++) {
                for (int other = record + 1; other < 40; other++) {
                    part.add(ofPair.ask(record, other));
                }
            }
            addPart(part);
        }
    }

    private static List<Act> askNumbers() {
        List<Act> part = new ArrayList<>();
        part.add(CensusLoom::openPairs);
        part.add(CensusLoom::matches);
        part.add(CensusLoom::estimate);
        part.add(CensusLoom::doubleShare);
        part.add(CensusLoom::meanScore);
        part.add(CensusLoom::isSafe);
        for (int i = 0; i < 20; i++) {
            int address = i;
            part.add(loom -> loom.blockOf(address));
        }
        return part;
    }

    private static List<Act> askRecords() {
        List<Act> part = new ArrayList<>();
        for (int i = 0; i < 40; i++) {
            int record = i;
            part.add(loom -> loom.isDouble(record));
            part.add(loom -> loom.matchOf(record));
        }
        return part;
    }

    private static List<Act> askCounts() {
        List<Act> part = new ArrayList<>();
        for (int i = 0; i < 24; i++) {
            int block = i / 4;
            int group = i % 4;
            part.add(loom -> loom.count(block, group));
            part.add(loom -> loom.countAnew(block, group));
        }
        return part;
    }

    private static List<Act> askTable(int table) {
        List<Act> part = new ArrayList<>();
        part.add(loom -> loom.stateOf(table));
        part.add(loom -> loom.holes(table));
        part.add(loom -> loom.found(table));
        part.add(loom -> loom.foundByWays(table));
        part.add(loom -> loom.lineLength(table));
        for (int i = 0; i < 80; i++) {
            int index = i;
            part.add(loom -> loom.lineAt(table, index));
        }
        for (int i = 0; i < 24; i++) {
            int block = i / 4;
            int group = i % 4;
            part.add(loom -> loom.isHidden(table, block, group));
            part.add(loom -> loom.cell(table, block, group));
            part.add(loom -> loom.isAtRisk(table, block, group));
            part.add(loom -> loom.blockSum(table, block));
            part.add(loom -> loom.groupSum(table, group));
        }
        return part;
    }

    /** What can be seen only by changes: points, bounds, and the numbers of what comes next. */
    private static List<Act> changeAll() {
        List<Act> part = new ArrayList<>();
        part.add(loom -> loom.setPoints('n', 1));
        part.add(loom -> loom.setPoints('y', 1));
        part.add(loom -> loom.setPoints('p', 1));
        part.add(loom -> loom.setBounds(2, 3));
        part.add(CensusLoom::openPairs);
        part.add(CensusLoom::tell);
        part.add(loom -> loom.addBlock());
        part.add(loom -> loom.addAddress(0));
        part.add(loom -> loom.addRecord('c', 0, 0, 0));
        part.add(loom -> loom.split(0, 0));
        part.add(loom -> loom.join(0, 1));
        part.add(loom -> loom.stateOf(0));
        part.add(loom -> loom.blockOf(TOP));
        return part;
    }
}
