import java.util.NoSuchElementException;

/**
 * The boundary cases of "Doubles", "Matches", "Counts" and of the promises 15 to 22: a function for each sentence,
 * which stands above it, and the promise's number in each call's name.
 */
public final class CountsEdgesTest {
    private static final Class<?> INDEX = IndexOutOfBoundsException.class;
    private static final Class<?> ARGUMENT = IllegalArgumentException.class;
    private static final Class<?> STATE = IllegalStateException.class;
    private static final Class<?> ELEMENT = NoSuchElementException.class;
    private static final Class<?> ARITHMETIC = ArithmeticException.class;
    private static final int LOW = Integer.MIN_VALUE;
    private static final int TOP = Integer.MAX_VALUE;
    private static final Views EMPTY = new Views(CensusLoom::new);
    private static final Views SOME = new Views(Towns::some);
    private static final Views FULL = new Views(Towns::full);

    /** Records of these lists, all with the same name, year and address. */
    private static CensusLoom same(String lists) {
        CensusLoom loom = Towns.town();
        for (int record = 0; record < lists.length(); record++) {
            loom.addRecord(lists.charAt(record), 0, 100, 50);
        }
        return loom;
    }

    /** Records of these lists that have no points together, but those of a block: no two of them are linked. */
    private static CensusLoom apart(String lists) {
        CensusLoom loom = Towns.town();
        for (int record = 0; record < lists.length(); record++) {
            loom.addRecord(lists.charAt(record), 0, record * 20, record * 3);
        }
        loom.setPoints('p', 0);
        return loom;
    }

    private static String doublesOf(CensusLoom loom, int records) {
        StringBuilder text = new StringBuilder();
        for (int record = 0; record < records; record++) {
            text.append(loom.isDouble(record) ? 'd' : '-');
        }
        return text.toString();
    }

    private static String matchesOf(CensusLoom loom, int records) {
        StringBuilder text = new StringBuilder();
        for (int i = 0; i < records; i++) {
            int record = i;
            Object match = Check.outcome(() -> loom.matchOf(record));
            text.append(match instanceof Integer ? match : "-").append(' ');
        }
        return text.toString();
    }

    /** Promise 15, "Throws NoSuchElementException if there is no such record". */
    private static void promise15Records() {
        EMPTY.refuse("15: no record 0", loom -> loom.isDouble(0), ELEMENT);
        for (int record : new int[] {LOW, -1, 18, 39, 40, TOP}) {
            SOME.refuse("15: no record " + record, loom -> loom.isDouble(record), ELEMENT);
        }
        for (int record : new int[] {LOW, -1, 40, 41, TOP}) {
            FULL.refuse("15: no record " + record + " of 40", loom -> loom.isDouble(record), ELEMENT);
        }
        Check.due("15: all of some", () -> doublesOf(Towns.some(), 18), "---------------d--");
        Check.due("15: all of 40", () -> doublesOf(Towns.full(), 40),
                "--d-----------------" + "----------------dd-d");
    }

    /** Terms, "one is a double if it is linked to one with a lower number": not to a higher one, not to the check. */
    private static void termsLowerNumber() {
        Check.due("15: one alone", () -> doublesOf(same("c"), 1), "-");
        Check.due("15: the lower one is none", () -> doublesOf(same("cc"), 2), "-d");
        Check.due("15: a check record is none, whatever is before it", () -> doublesOf(same("ck"), 2), "--");
        Check.due("15: a check record before makes no double", () -> doublesOf(same("kc"), 2), "--");
        Check.due("15: nor one between", () -> doublesOf(same("kckck"), 5), "---d-");
        Check.due("15: 39 of 40 are", () -> doublesOf(same("c".repeat(40)), 40), "-" + "d".repeat(39));
        Check.due("15: none of 40 of the check", () -> doublesOf(same("k".repeat(40)), 40), "-".repeat(40));
        CensusLoom last = apart("c".repeat(40));
        last.decide(39, 0, true);
        Check.due("15: the last by the first", () -> doublesOf(last, 40), "-".repeat(39) + "d");
    }

    /** Terms, "that is no double": gone through by rising numbers. */
    private static void termsNoDouble() {
        CensusLoom chain = apart("ccccc");
        for (int record = 1; record < 5; record++) {
            chain.decide(record - 1, record, true);
        }
        Check.due("15: every second one of a chain", () -> doublesOf(chain, 5), "-d-d-");
        chain.decide(0, 1, false);
        Check.due("15: the others, without the first link", () -> doublesOf(chain, 5), "--d-d");
        CensusLoom down = apart("ccccc");
        for (int record = 4; record > 0; record--) {
            down.decide(record, record - 1, true);
        }
        Check.due("15: whichever way round it was decided", () -> doublesOf(down, 5), "-d-d-");
        CensusLoom either = apart("cccc");
        either.decide(0, 1, true);
        either.decide(1, 3, true);
        Check.due("15: linked to a double alone", () -> doublesOf(either, 4), "-d--");
        either.decide(2, 3, true);
        Check.due("15: and to one that is none", () -> doublesOf(either, 4), "-d-d");
    }

    /** Terms, "if it is linked": open is not enough; the score is that of the points and bounds of now. */
    private static void termsOpenIsNoDouble() {
        CensusLoom loom = same("cc");
        loom.setBounds(12, 12);
        Check.due("15: at the upper bound", () -> doublesOf(loom, 2), "-d");
        loom.setBounds(12, 13);
        Check.due("15: open, below the upper bound", () -> doublesOf(loom, 2), "--");
        loom.setPoints('n', 6);
        Check.due("15: at it again by other points", () -> doublesOf(loom, 2), "-d");
    }

    /** Promise 16, "Throws NoSuchElementException if there is no such record", ahead of "if it has none". */
    private static void promise16Records() {
        EMPTY.refuse("16: no record 0", loom -> loom.matchOf(0), ELEMENT);
        for (int record : new int[] {LOW, -1, 18, 39, 40, TOP}) {
            SOME.refuse("16: no record " + record, loom -> loom.matchOf(record), ELEMENT);
        }
        for (int record : new int[] {LOW, -1, 40, 41, TOP}) {
            FULL.refuse("16: no record " + record + " of 40", loom -> loom.matchOf(record), ELEMENT);
        }
    }

    /** Promise 16, "Throws IllegalStateException if it has none". */
    private static void promise16None() {
        SOME.refuse("16: a census record without a match", loom -> loom.matchOf(1), STATE);
        SOME.refuse("16: a double", loom -> loom.matchOf(15), STATE);
        SOME.refuse("16: a check record without a match", loom -> loom.matchOf(17), STATE);
        FULL.refuse("16: the last of 40, a double", loom -> loom.matchOf(39), STATE);
        FULL.refuse("16: a check record of 40", loom -> loom.matchOf(24), STATE);
        Check.due("16: all of some", () -> matchesOf(Towns.some(), 18),
                "13 - - - - - - 14 - - - - - 0 7 - - - ");
    }

    /** Terms, "The linked pairs of a census record that is no double and a check record". */
    private static void termsWhichPairsMatch() {
        Check.due("17: two of the census do not", () -> same("cc").matches(), 0);
        Check.due("17: two of the check do not", () -> same("kk").matches(), 0);
        Check.due("17: census and check do", () -> same("ck").matches(), 1);
        Check.due("17: check and census do", () -> same("kc").matches(), 1);
        Check.due("16: a double has none, though a check record is left", () -> matchesOf(same("cckk"), 4), "2 - 0 - ");
        CensusLoom open = same("ck");
        open.setBounds(12, 13);
        Check.due("17: an open pair does not", open::matches, 0);
        open.decide(0, 1, true);
        Check.due("17: a decided one does", open::matches, 1);
        open.decide(0, 1, false);
        open.setBounds(0, 0);
        Check.due("17: one that is decided to be apart does not", open::matches, 0);
    }

    /** Terms, "by falling scores": the pair with the higher score goes first, wherever it stands. */
    private static void termsFallingScores() {
        CensusLoom check = Towns.town();
        check.addRecord('c', 0, 100, 50);
        check.addRecord('k', 0, 101, 50);
        check.addRecord('k', 0, 100, 50);
        Check.due("16: 12 before 9, the later check record", () -> matchesOf(check, 3), "2 - 0 ");
        CensusLoom census = Towns.town();
        census.addRecord('k', 0, 100, 50);
        census.addRecord('c', 0, 101, 51);
        census.addRecord('c', 0, 100, 51);
        census.setBounds(7, 7);
        census.decide(1, 2, false);
        Check.due("16: 10 before 7, the later census record", () -> matchesOf(census, 3), "2 - 0 ");
        CensusLoom one = Towns.town();
        one.addRecord('k', 0, 100, 50);
        one.addRecord('c', 1, 100, 50);
        one.addRecord('c', 0, 100, 51);
        one.decide(1, 2, false);
        one.setPoints('p', 2);
        Check.due("16: 11 before 9", () -> matchesOf(one, 3), "1 0 - ");
        one.setPoints('p', 6);
        Check.due("16: 13 before 12", () -> matchesOf(one, 3), "2 - 0 ");
        CensusLoom decided = Towns.town();
        decided.addRecord('c', 0, 900, 10);
        decided.addRecord('c', 0, 100, 50);
        decided.addRecord('k', 0, 100, 50);
        decided.decide(0, 2, true);
        Check.due("16: a decision does not go before a score", () -> matchesOf(decided, 3), "- 2 1 ");
    }

    /** Terms, "those with the same score by rising numbers of the census record, then of the check record". */
    private static void termsSameScores() {
        CensusLoom census = apart("kcc");
        census.decide(0, 2, true);
        census.decide(0, 1, true);
        Check.due("16: the lower census record", () -> matchesOf(census, 3), "1 0 - ");
        CensusLoom check = apart("ckk");
        check.decide(0, 2, true);
        check.decide(0, 1, true);
        Check.due("16: the lower check record", () -> matchesOf(check, 3), "1 0 - ");
        // By the check record first, 2 would have 0 and 1 would have 3.
        CensusLoom both = apart("kcck");
        both.decide(2, 0, true);
        both.decide(1, 0, true);
        both.decide(1, 3, true);
        both.decide(2, 3, true);
        Check.due("16: the census record counts before the check record", () -> matchesOf(both, 4), "1 0 3 2 ");
        CensusLoom cross = apart("kkcc");
        cross.decide(2, 1, true);
        cross.decide(3, 0, true);
        cross.decide(3, 1, true);
        Check.due("16: the first census record takes what it can", () -> matchesOf(cross, 4), "3 2 1 0 ");
        CensusLoom greedy = apart("kkcc");
        greedy.decide(2, 0, true);
        greedy.decide(2, 1, true);
        greedy.decide(3, 0, true);
        Check.due("16: even if another one has none for it", () -> matchesOf(greedy, 4), "2 - 0 - ");
    }

    /** Promise 17, "Returns the number of matches": none, and at most 20 with 40 records. */
    private static void promise17Matches() {
        Check.due("17: an empty object", () -> new CensusLoom().matches(), 0);
        Check.due("17: one record", () -> same("c").matches(), 0);
        CensusLoom most = apart("ck".repeat(20));
        for (int record = 0; record < 40; record += 2) {
            most.decide(record, record + 1, true);
        }
        Check.due("17: 20", most::matches, 20);
        Check.due("20: 20 times 20 by 20", most::estimate, 20L);
        Check.due("16: the last two match", () -> most.matchOf(39), 38);
        CensusLoom lone = apart("c" + "k".repeat(39));
        lone.setBounds(0, 0);
        Check.due("17: one census record matches once", lone::matches, 1);
        Check.due("20: 1 times 39 by 1", lone::estimate, 39L);
    }

    /** Promises 18 and 19, "Throws IndexOutOfBoundsException if there is no such block". */
    private static void promises18And19Blocks() {
        for (int block : new int[] {LOW, -1, 3, 5, 6, TOP}) {
            SOME.refuse("18: no block " + block, loom -> loom.count(block, 0), INDEX);
            SOME.refuse("19: no block " + block, loom -> loom.countAnew(block, 0), INDEX);
        }
        for (int block : new int[] {-1, 6, TOP}) {
            FULL.refuse("18: no block " + block + " of 6", loom -> loom.count(block, 3), INDEX);
            FULL.refuse("19: no block " + block + " of 6", loom -> loom.countAnew(block, 3), INDEX);
        }
        CensusLoom loom = Towns.some();
        Check.due("18: the last block", () -> loom.count(2, 3), 0);
        Check.due("19: the last block", () -> loom.countAnew(2, 3), 0);
        CensusLoom six = Towns.addresses(6, 0, 5);
        six.addRecord('c', 0, 0, 0);
        six.addRecord('c', 1, 500, 120);
        Check.due("18: the first of 6 blocks", () -> six.count(0, 0), 1);
        Check.due("18: the last of 6 blocks", () -> six.count(5, 3), 1);
        Check.due("19: the first of 6 blocks", () -> six.countAnew(0, 0), 1);
        Check.due("19: the last of 6 blocks", () -> six.countAnew(5, 3), 1);
    }

    /** Promises 18 and 19, "Throws IllegalArgumentException if the group is out of range"; "the group, 0 to 3". */
    private static void promises18And19Groups() {
        for (int group : new int[] {LOW, -1, 4, TOP}) {
            SOME.refuse("18: no group " + group, loom -> loom.count(0, group), ARGUMENT);
            SOME.refuse("18: no group " + group + " of the last block", loom -> loom.count(2, group), ARGUMENT);
            SOME.refuse("19: no group " + group, loom -> loom.countAnew(0, group), ARGUMENT);
            SOME.refuse("19: no group " + group + " of the last block", loom -> loom.countAnew(2, group), ARGUMENT);
        }
        int[][] due = {{0, 1, 4, 2}, {3, 2, 0, 1}, {0, 0, 0, 0}};
        CensusLoom loom = Towns.some();
        for (int cell = 0; cell < 12; cell++) {
            int block = cell / 4;
            int group = cell % 4;
            Check.due("18: block " + block + ", group " + group, () -> loom.count(block, group), due[block][group]);
            Check.due("19: block " + block + ", group " + group, () -> loom.countAnew(block, group),
                    due[block][group]);
        }
    }

    /** Promises 18 and 19: no such block comes before the group. */
    private static void promises18And19Pairs() {
        SOME.refuse("18: block before group", loom -> loom.count(3, 4), INDEX);
        SOME.refuse("18: block before group, below", loom -> loom.count(-1, -1), INDEX);
        SOME.refuse("19: block before group", loom -> loom.countAnew(3, 4), INDEX);
        SOME.refuse("19: block before group, below", loom -> loom.countAnew(-1, -1), INDEX);
        EMPTY.refuse("18: block before group, empty", loom -> loom.count(0, 4), INDEX);
        EMPTY.refuse("19: block before group, empty", loom -> loom.countAnew(0, 4), INDEX);
        FULL.refuse("18: block before group, of 6", loom -> loom.count(6, 4), INDEX);
        FULL.refuse("19: block before group, of 6", loom -> loom.countAnew(6, -1), INDEX);
    }

    /** Terms, "the number of its census records that are no doubles": none, and all 40. */
    private static void termsCounts() {
        CensusLoom all = apart("c".repeat(40));
        for (int group = 0; group < 4; group++) {
            int asked = group;
            int due = new int[] {6, 8, 8, 18}[group];
            Check.due("18: of the years 0, 3, .. 117", () -> all.count(0, asked), due);
            Check.due("19: of the years 0, 3, .. 117", () -> all.countAnew(0, asked), due);
        }
        CensusLoom one = Towns.town();
        for (int record = 0; record < 40; record++) {
            one.addRecord('c', 2, record * 20, 120);
        }
        Check.due("18: 40 in one cell", () -> one.count(1, 3), 40);
        Check.due("19: 40 in one cell", () -> one.countAnew(1, 3), 40);
        CensusLoom doubles = same("c".repeat(40));
        Check.due("18: 39 doubles count no more", () -> doubles.count(0, 2), 1);
        Check.due("19: 39 doubles count no more", () -> doubles.countAnew(0, 2), 1);
        CensusLoom check = same("k".repeat(40));
        Check.due("18: the check does not count", () -> check.count(0, 2), 0);
        Check.due("19: the check does not count", () -> check.countAnew(0, 2), 0);
        CensusLoom away = Towns.town();
        away.addRecord('c', 0, 100, 17);
        away.addRecord('c', 2, 100, 18);
        away.decide(0, 1, true);
        Check.due("18: a double does not count in its own cell", () -> away.count(1, 1), 0);
        Check.due("18: nor does it change the other's", () -> away.count(0, 0), 1);
    }

    /** Promise 20, "Throws ArithmeticException if there are no matches". */
    private static void promise20NoMatches() {
        EMPTY.refuse("20: no record", CensusLoom::estimate, ARITHMETIC);
        new Views(() -> same("cc")).refuse("20: the census alone", CensusLoom::estimate, ARITHMETIC);
        new Views(() -> same("kk")).refuse("20: the check alone", CensusLoom::estimate, ARITHMETIC);
        new Views(() -> apart("ck")).refuse("20: both, but apart", CensusLoom::estimate, ARITHMETIC);
        CensusLoom taken = same("ck");
        Check.due("20: one match", taken::estimate, 1L);
        taken.decide(0, 1, false);
        Check.due("20: none any more", taken::estimate, ARITHMETIC);
    }

    private static CensusLoom firstMatches(String lists, int census, int check, int matches) {
        CensusLoom loom = apart(lists);
        for (int match = 0; match < matches; match++) {
            loom.decide(census + match, check + match, true);
        }
        return loom;
    }

    /** Promise 20, "divided by the number of matches, rounded down"; "counted census records". */
    private static void promise20RoundedDown() {
        Check.due("20: 3 times 3 by 3", () -> firstMatches("ccckkk", 0, 3, 3).estimate(), 3L);
        Check.due("20: 3 times 3 by 2 is 4.5", () -> firstMatches("ccckkk", 0, 3, 2).estimate(), 4L);
        Check.due("20: 5 times 1 by 1", () -> firstMatches("ccccck", 0, 5, 1).estimate(), 5L);
        Check.due("20: 5 times 4 by 3 is 6 and two thirds", () -> firstMatches("ccccckkkk", 0, 5, 3).estimate(), 6L);
        Check.due("20: 20 times 20 by 1", () -> firstMatches("c".repeat(20) + "k".repeat(20), 0, 20, 1).estimate(),
                400L);
        Check.due("20: 20 times 20 by 19 is 21 and a bit",
                () -> firstMatches("c".repeat(20) + "k".repeat(20), 0, 20, 19).estimate(), 21L);
        Check.due("20: 37 doubles do not count: 1 times 2 by 1", () -> same("c".repeat(38) + "kk").estimate(), 2L);
    }

    /** Promise 21, "Throws ArithmeticException if there are no census records". */
    private static void promise21NoCensus() {
        EMPTY.refuse("21: no record", CensusLoom::doubleShare, ARITHMETIC);
        new Views(() -> same("k")).refuse("21: one of the check", CensusLoom::doubleShare, ARITHMETIC);
        new Views(() -> same("k".repeat(40))).refuse("21: 40 of the check", CensusLoom::doubleShare, ARITHMETIC);
        CensusLoom last = same("k".repeat(39) + "c");
        Check.due("21: the last one of the census", last::doubleShare, 0.0f);
    }

    /** Promise 21, "Returns their number divided by that of all census records, both converted to float". */
    private static void promise21Shares() {
        Check.due("21: none of one", () -> same("c").doubleShare(), 0.0f);
        Check.due("21: one of two", () -> same("cc").doubleShare(), 0.5f);
        Check.due("21: two of three", () -> same("cckckk").doubleShare(), 2.0f / 3.0f);
        Check.due("21: 39 of 40", () -> same("c".repeat(40)).doubleShare(), 39.0f / 40.0f);
        Check.due("21: none of 40", () -> apart("c".repeat(40)).doubleShare(), 0.0f);
    }

    /** Promise 22, "Throws ArithmeticException if there are no matches". */
    private static void promise22NoMatches() {
        EMPTY.refuse("22: no record", CensusLoom::meanScore, ARITHMETIC);
        new Views(() -> same("ccc")).refuse("22: doubles, but no matches", CensusLoom::meanScore, ARITHMETIC);
        new Views(() -> apart("ckck")).refuse("22: both, but apart", CensusLoom::meanScore, ARITHMETIC);
    }

    /** Promise 22, "Returns the sum of their scores divided by their number, both converted to double". */
    private static void promise22Means() {
        CensusLoom least = apart("ck");
        least.decide(0, 1, true);
        Check.due("22: the score 0", least::meanScore, 0.0);
        CensusLoom greatest = same("ck");
        greatest.setPoints('n', 9);
        greatest.setPoints('y', 9);
        greatest.setPoints('p', 9);
        Check.due("22: the score 27", greatest::meanScore, 27.0);
        CensusLoom three = apart("ccckkk");
        three.decide(0, 3, true);
        three.decide(1, 4, true);
        three.decide(2, 5, true);
        three.setPoints('p', 1);
        three.addRecord('c', 0, 999, 0);
        Check.due("22: 1 and 1 and 1", three::meanScore, 1.0);
        CensusLoom third = Towns.town();
        third.addRecord('c', 0, 100, 50);
        third.addRecord('k', 0, 100, 50);
        third.addRecord('c', 0, 300, 90);
        third.addRecord('k', 2, 500, 10);
        third.addRecord('c', 0, 700, 10);
        third.addRecord('k', 1, 900, 50);
        third.decide(2, 3, true);
        third.decide(4, 5, true);
        Check.due("22: 12 and 0 and 1 by 3", third::meanScore, 13.0 / 3.0);
    }

    public static void main(String[] args) {
        promise15Records();
        termsLowerNumber();
        termsNoDouble();
        termsOpenIsNoDouble();
        promise16Records();
        promise16None();
        termsWhichPairsMatch();
        termsFallingScores();
        termsSameScores();
        promise17Matches();
        promises18And19Blocks();
        promises18And19Groups();
        promises18And19Pairs();
        termsCounts();
        promise20NoMatches();
        promise20RoundedDown();
        promise21NoCensus();
        promise21Shares();
        promise22NoMatches();
        promise22Means();
        Check.end();
    }
}
