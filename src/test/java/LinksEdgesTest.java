import java.util.NoSuchElementException;

/**
 * The boundary cases of "Scores", "Links" and of the promises 8 to 14: a function for each sentence, which stands above
 * it, and the promise's number in each call's name.
 */
public final class LinksEdgesTest {
    private static final Class<?> ARGUMENT = IllegalArgumentException.class;
    private static final Class<?> STATE = IllegalStateException.class;
    private static final Class<?> ELEMENT = NoSuchElementException.class;
    private static final Class<?> UNSUPPORTED = UnsupportedOperationException.class;
    private static final int LOW = Integer.MIN_VALUE;
    private static final int TOP = Integer.MAX_VALUE;
    private static final Views EMPTY = new Views(CensusLoom::new);
    private static final Views SOME = new Views(Towns::some);
    private static final Views FULL = new Views(Towns::full);
    private static final int[] NO_RECORD_OF_SOME = {LOW, -1, 18, 39, 40, TOP};
    private static final int[] NO_RECORD_OF_FULL = {LOW, -1, 40, 41, TOP};

    /** A census record 0 and a check record 1 at these places, with these names and years. */
    private static CensusLoom two(int address, int name, int year, int otherAddress, int otherName, int otherYear) {
        CensusLoom loom = Towns.town();
        loom.addRecord('c', address, name, year);
        loom.addRecord('k', otherAddress, otherName, otherYear);
        return loom;
    }

    private static CensusLoom ofNames(int name, int other) {
        return two(0, name, 50, 2, other, 90);
    }

    private static CensusLoom ofYears(int year, int other) {
        return two(0, 100, year, 2, 900, other);
    }

    private static void scores(String what, CensusLoom loom, int due) {
        Check.due("10: " + what, () -> loom.score(0, 1), due);
        Check.due("10: " + what + ", the other way round", () -> loom.score(1, 0), due);
    }

    /** Terms, "points for the name, 5 at first, for the year, 4 at first, and for the place, 3 at first". */
    private static void termsPointsAtFirst() {
        scores("the name's points at first", ofNames(100, 100), 5);
        scores("the year's points at first", ofYears(50, 50), 4);
        scores("the place's points at first", two(2, 100, 50, 2, 900, 90), 3);
        Check.due("8: the name's points at first", () -> new CensusLoom().setPoints('n', 0), 5);
        Check.due("8: the year's points at first", () -> new CensusLoom().setPoints('y', 0), 4);
        Check.due("8: the place's points at first", () -> new CensusLoom().setPoints('p', 0), 3);
    }

    /** Terms, "or half of them, rounded down, if only their last digits are different". */
    private static void termsLastDigits() {
        scores("0 and 9", ofNames(0, 9), 2);
        scores("9 and 0", ofNames(9, 0), 2);
        scores("990 and 999", ofNames(990, 999), 2);
        scores("998 and 999", ofNames(998, 999), 2);
        scores("9 and 10: the digit before is another one too", ofNames(9, 10), 0);
        scores("19 and 20", ofNames(19, 20), 0);
        scores("99 and 100", ofNames(99, 100), 0);
        scores("989 and 990", ofNames(989, 990), 0);
        scores("0 and 999", ofNames(0, 999), 0);
        scores("5 and 15: not the last digit", ofNames(5, 15), 0);
        scores("120 and 130: not the last digit", ofNames(120, 130), 0);
        scores("120 and 220: not the last digit", ofNames(120, 220), 0);
        scores("12 and 120", ofNames(12, 120), 0);
        scores("0 and 0", ofNames(0, 0), 5);
        scores("999 and 999", ofNames(999, 999), 5);
    }

    /** Terms, "or half of them, rounded down, if they differ by 1". */
    private static void termsYearsBeside() {
        scores("0 and 1", ofYears(0, 1), 2);
        scores("1 and 0", ofYears(1, 0), 2);
        scores("119 and 120", ofYears(119, 120), 2);
        scores("120 and 119", ofYears(120, 119), 2);
        scores("0 and 2", ofYears(0, 2), 0);
        scores("2 and 0", ofYears(2, 0), 0);
        scores("118 and 120", ofYears(118, 120), 0);
        scores("120 and 118", ofYears(120, 118), 0);
        scores("0 and 120", ofYears(0, 120), 0);
        scores("0 and 0", ofYears(0, 0), 4);
        scores("120 and 120", ofYears(120, 120), 4);
        scores("17 and 18, of two groups", ofYears(17, 18), 2);
    }

    /** Terms, "if both addresses are the same, or half of them, rounded down, if only their blocks are the same". */
    private static void termsPlaces() {
        scores("both at the address 0", two(0, 100, 50, 0, 900, 90), 3);
        scores("two addresses of one block", two(0, 100, 50, 1, 900, 90), 1);
        scores("two blocks", two(0, 100, 50, 2, 900, 90), 0);
        CensusLoom joined = two(0, 100, 50, 2, 900, 90);
        joined.join(0, 1);
        scores("one block behind a join", joined, 1);
        CensusLoom split = two(0, 100, 50, 1, 900, 90);
        split.split(0, 1);
        scores("two blocks behind a split", split, 0);
    }

    /** Terms, "half of them, rounded down": for all points of each part; promise 8, "the points, 0 to 9". */
    private static void termsHalves() {
        for (int i = 0; i <= 9; i++) {
            int points = i;
            CensusLoom names = ofNames(120, 129);
            Check.due("8: points for the name " + points, () -> names.setPoints('n', points), 5);
            scores("half of " + points + " for the name", names, points / 2);
            Check.due("8: these were kept", () -> names.setPoints('n', 0), points);
            CensusLoom years = ofYears(50, 51);
            Check.due("8: points for the year " + points, () -> years.setPoints('y', points), 4);
            scores("half of " + points + " for the year", years, points / 2);
            Check.due("8: these were kept", () -> years.setPoints('y', 9), points);
            CensusLoom places = two(0, 100, 50, 1, 900, 90);
            Check.due("8: points for the place " + points, () -> places.setPoints('p', points), 3);
            scores("half of " + points + " for the place", places, points / 2);
            Check.due("8: these were kept", () -> places.setPoints('p', 5), points);
        }
        CensusLoom all = two(0, 120, 50, 1, 121, 51);
        all.setPoints('n', 9);
        all.setPoints('y', 9);
        all.setPoints('p', 9);
        scores("each half is rounded down by itself", all, 12);
    }

    /** Terms, "The score of two records is the sum": the least and the greatest. */
    private static void termsLeastAndGreatestScore() {
        CensusLoom greatest = two(0, 999, 120, 0, 999, 120);
        scores("all at first", greatest, 12);
        for (char part : new char[] {'n', 'y', 'p'}) {
            greatest.setPoints(part, 9);
        }
        scores("9 and 9 and 9", greatest, 27);
        for (char part : new char[] {'n', 'y', 'p'}) {
            greatest.setPoints(part, 0);
        }
        scores("0 and 0 and 0", greatest, 0);
        scores("nothing the same", two(0, 0, 0, 2, 999, 120), 0);
    }

    /** Promise 8, "Throws IllegalArgumentException if there is no such part". */
    private static void promise8Parts() {
        for (char part : new char[] {0, 'N', 'Y', 'P', 'm', 'o', 'q', 'x', 'z', 'n' + 256, Character.MAX_VALUE}) {
            SOME.refuse("8: no part " + (int) part, loom -> loom.setPoints(part, 3), ARGUMENT);
        }
        EMPTY.refuse("8: no such part, and no such points", loom -> loom.setPoints('x', 10), ARGUMENT);
    }

    /** Promise 8, "or the points are out of range"; "the points, 0 to 9". */
    private static void promise8Points() {
        for (char part : new char[] {'n', 'y', 'p'}) {
            for (int points : new int[] {LOW, -1, 10, TOP}) {
                SOME.refuse("8: no points " + points + " for " + part, loom -> loom.setPoints(part, points), ARGUMENT);
            }
        }
    }

    /** Promise 8, "Sets the points for a part": only for that one; "Returns the points before". */
    private static void promise8OnePart() {
        CensusLoom loom = new CensusLoom();
        Check.due("8: n 9", () -> loom.setPoints('n', 9), 5);
        Check.due("8: y keeps its points", () -> loom.setPoints('y', 8), 4);
        Check.due("8: p keeps its points", () -> loom.setPoints('p', 0), 3);
        Check.due("8: n 9 again", () -> loom.setPoints('n', 9), 9);
        Check.due("8: y 0", () -> loom.setPoints('y', 0), 8);
        Check.due("8: p 9", () -> loom.setPoints('p', 9), 0);
        Check.due("8: y 0 again", () -> loom.setPoints('y', 0), 0);
    }

    /** Promise 9, "Throws IllegalArgumentException if a bound is out of range"; "the lower bound, 0 to 30". */
    private static void promise9Lower() {
        for (int lower : new int[] {LOW, -1, 31, TOP}) {
            SOME.refuse("9: no lower bound " + lower, loom -> loom.setBounds(lower, 30), ARGUMENT);
            SOME.refuse("9: nor with the same upper one " + lower, loom -> loom.setBounds(lower, lower), ARGUMENT);
        }
        Check.due("9: a lower bound 0", () -> Towns.some().setBounds(0, 30), 9);
        Check.due("9: a lower bound 30", () -> Towns.some().setBounds(30, 30), 9);
    }

    /** Promise 9, "the upper bound, from the lower one to 30". */
    private static void promise9Upper() {
        int[][] refused = {{0, -1}, {1, 0}, {6, 5}, {30, 29}, {6, 31}, {0, 31}, {30, 31}, {0, LOW}, {0, TOP}, {30, 0}};
        for (int[] bounds : refused) {
            SOME.refuse("9: no bounds " + bounds[0] + " " + bounds[1],
                    loom -> loom.setBounds(bounds[0], bounds[1]), ARGUMENT);
        }
        int[][] taken = {{0, 0}, {0, 1}, {0, 30}, {6, 6}, {6, 7}, {29, 30}, {29, 29}, {30, 30}};
        for (int[] bounds : taken) {
            CensusLoom loom = Towns.some();
            Check.due("9: bounds " + bounds[0] + " " + bounds[1], () -> loom.setBounds(bounds[0], bounds[1]), 9);
            Check.due("9: the upper one is kept", () -> loom.setBounds(0, 0), bounds[1]);
        }
    }

    /** Terms, "the upper bound, 9 at first"; "the lower bound, 6 at first". */
    private static void termsBoundsAtFirst() {
        Check.due("9: the upper bound at first", () -> new CensusLoom().setBounds(0, 0), 9);
        Check.due("13: 9 is linked", () -> two(0, 100, 50, 2, 100, 50).link(0, 1), 'y');
        Check.due("13: 8 is open", () -> two(0, 100, 50, 0, 100, 90).link(0, 1), '?');
        CensusLoom six = two(0, 100, 50, 1, 100, 90);
        Check.due("13: 6 is open", () -> six.link(0, 1), '?');
        Check.due("13: it is 6", () -> six.score(0, 1), 6);
        CensusLoom five = ofNames(100, 100);
        Check.due("13: 5 is apart", () -> five.link(0, 1), 'n');
        CensusLoom nine = two(0, 100, 50, 2, 100, 50);
        Check.due("13: 9 is 5 and 4", () -> nine.score(0, 1), 9);
    }

    private static void noSuchPairs(String what, Views views, int[] numbers, int there, Pair pair) {
        for (int number : numbers) {
            views.refuse(what + ": no record " + number, loom -> pair.on(loom, number, there), ELEMENT);
            views.refuse(what + ": no other record " + number, loom -> pair.on(loom, there, number), ELEMENT);
            views.refuse(what + ": record before the same " + number, loom -> pair.on(loom, number, number), ELEMENT);
        }
    }

    private interface Pair {
        Object on(CensusLoom loom, int record, int other);
    }

    /**
     * Promises 10 to 13, "Throws NoSuchElementException if there is no such record, for either": also if both are the
     * same, or there is no decision on them, as it is documented first.
     */
    private static void promises10To13Records() {
        noSuchPairs("10", SOME, NO_RECORD_OF_SOME, 0, (loom, record, other) -> loom.score(record, other));
        noSuchPairs("10", FULL, NO_RECORD_OF_FULL, 39, (loom, record, other) -> loom.score(record, other));
        noSuchPairs("11", SOME, NO_RECORD_OF_SOME, 0, (loom, record, other) -> loom.decide(record, other, true));
        noSuchPairs("11", FULL, NO_RECORD_OF_FULL, 39, (loom, record, other) -> loom.decide(record, other, false));
        noSuchPairs("11, a check record", SOME, NO_RECORD_OF_SOME, 17, (loom, one, two) -> loom.decide(one, two, true));
        noSuchPairs("12", SOME, NO_RECORD_OF_SOME, 0, (loom, record, other) -> loom.takeBack(record, other));
        noSuchPairs("12", FULL, NO_RECORD_OF_FULL, 0, (loom, record, other) -> loom.takeBack(record, other));
        noSuchPairs("13", SOME, NO_RECORD_OF_SOME, 0, (loom, record, other) -> loom.link(record, other));
        noSuchPairs("13", FULL, NO_RECORD_OF_FULL, 39, (loom, record, other) -> loom.link(record, other));
        EMPTY.refuse("10: on an empty object", loom -> loom.score(0, 0), ELEMENT);
        EMPTY.refuse("11: on an empty object", loom -> loom.decide(0, 0, true), ELEMENT);
        EMPTY.refuse("12: on an empty object", loom -> loom.takeBack(0, 0), ELEMENT);
        EMPTY.refuse("13: on an empty object", loom -> loom.link(0, 0), ELEMENT);
    }

    /** Promises 10, 11 and 13, "Throws IllegalArgumentException if both are the same". */
    private static void promises10To13Same() {
        for (int record : new int[] {0, 13, 15, 17}) {
            SOME.refuse("10: " + record + " with itself", loom -> loom.score(record, record), ARGUMENT);
            SOME.refuse("11: " + record + " with itself, same", loom -> loom.decide(record, record, true), ARGUMENT);
            SOME.refuse("11: " + record + " with itself, apart", loom -> loom.decide(record, record, false), ARGUMENT);
            SOME.refuse("13: " + record + " with itself", loom -> loom.link(record, record), ARGUMENT);
        }
        for (int record : new int[] {0, 24, 35, 39}) {
            FULL.refuse("10: " + record + " of 40 with itself", loom -> loom.score(record, record), ARGUMENT);
            FULL.refuse("11: " + record + " of 40 with itself", loom -> loom.decide(record, record, true), ARGUMENT);
            FULL.refuse("13: " + record + " of 40 with itself", loom -> loom.link(record, record), ARGUMENT);
        }
    }

    /** Promise 10: two of the check, two of the census, the first and the last of 40 are taken, both ways round. */
    private static void promise10AllLists() {
        CensusLoom loom = Towns.full();
        Check.due("10: two of the check", () -> loom.score(24, 35), 0);
        Check.due("10: two of the census", () -> loom.score(0, 36), 12);
        Check.due("10: the first and the last", () -> loom.score(0, 39), 0);
        Check.due("10: the last and the first", () -> loom.score(39, 0), 0);
        Check.due("10: the last and its like", () -> loom.score(39, 3), 12);
        Check.due("10: a decision changes no score", () -> loom.score(1, 2), 0);
    }

    /** Promise 11, "Throws UnsupportedOperationException if both are of the check". */
    private static void promise11Check() {
        SOME.refuse("11: two of the check, same", loom -> loom.decide(13, 14, true), UNSUPPORTED);
        SOME.refuse("11: two of the check, apart", loom -> loom.decide(17, 13, false), UNSUPPORTED);
        FULL.refuse("11: two of the check among 40", loom -> loom.decide(24, 35, true), UNSUPPORTED);
        CensusLoom loom = Towns.some();
        Check.due("11: one of the check behind", () -> loom.decide(0, 17, true), 0);
        Check.due("11: one of the check ahead", () -> loom.decide(17, 1, true), 0);
        Check.due("11: two of the census", () -> loom.decide(1, 2, false), 0);
        Check.due("11: the first", () -> loom.link(17, 0), 'y');
        Check.due("11: the second", () -> loom.link(1, 17), 'y');
        Check.due("11: the third", () -> loom.link(2, 1), 'n');
    }

    /** Promise 11: both being the same comes before both being of the check. */
    private static void promise11Pair() {
        SOME.refuse("11: the same before the check", loom -> loom.decide(13, 13, true), ARGUMENT);
        FULL.refuse("11: the same before the check, of 40", loom -> loom.decide(35, 35, false), ARGUMENT);
    }

    /** Promise 11, "in place of an earlier one": of the other kind, of the same kind, and the other way round. */
    private static void promise11InPlace() {
        CensusLoom loom = ofNames(100, 900);
        loom.decide(0, 1, true);
        Check.due("11: the first decision", () -> loom.link(0, 1), 'y');
        loom.decide(0, 1, true);
        Check.due("11: the same once more", () -> loom.link(0, 1), 'y');
        loom.decide(1, 0, false);
        Check.due("11: another one, the other way round", () -> loom.link(0, 1), 'n');
        loom.decide(0, 1, true);
        Check.due("11: and back", () -> loom.link(1, 0), 'y');
        loom.takeBack(0, 1);
        Check.due("12: one takeBack takes all of them", () -> loom.link(0, 1), 'n');
        Check.due("12: none is left", () -> loom.takeBack(0, 1), STATE);
        Check.due("12: none is left, the other way round", () -> loom.takeBack(1, 0), STATE);
    }

    /** Promises 11 and 12, "Returns the number of tables that are undone by this": none, one, all 8, none again. */
    private static void promises11And12Undone() {
        CensusLoom loom = Towns.counts(Towns.row(4, 0, 0, 0), Towns.row(0, 4, 0, 0));
        Check.due("11: none is told", () -> loom.decide(0, 1, true), 0);
        Check.due("12: none is told", () -> loom.takeBack(0, 1), 0);
        for (int i = 0; i < 8; i++) {
            int table = i;
            Check.due("23: tell", loom::tell, table);
        }
        Check.due("11: none by a decision that changes no count", () -> loom.decide(0, 1, false), 0);
        Check.due("12: none by taking it back", () -> loom.takeBack(0, 1), 0);
        Check.due("11: all 8", () -> loom.decide(0, 1, true), 8);
        Check.due("11: none that is undone already", () -> loom.decide(0, 2, true), 0);
        Check.due("12: none that is undone already", () -> loom.takeBack(0, 1), 0);
        Check.due("24: undone", () -> loom.stateOf(7), 'u');
        CensusLoom one = Towns.counts(Towns.row(4, 0, 0, 0), Towns.row(0, 4, 0, 0));
        one.tell();
        one.addRecord('c', 0, 900, 10);
        one.decide(0, 1, true);
        one.tell();
        Check.due("12: the one that is told", () -> one.takeBack(1, 0), 1);
        Check.due("11: none is left to undo", () -> one.decide(0, 1, true), 0);
        for (int table = 2; table < 8; table++) {
            one.tell();
        }
        Check.due("12: the six that are told", () -> one.takeBack(0, 1), 6);
    }

    /** Promise 12, "Throws IllegalStateException if there is none". */
    private static void promise12None() {
        SOME.refuse("12: no decision on two of the census", loom -> loom.takeBack(0, 1), STATE);
        SOME.refuse("12: no decision, though they are linked", loom -> loom.takeBack(0, 13), STATE);
        SOME.refuse("12: no decision on a neighbour", loom -> loom.takeBack(0, 16), STATE);
        SOME.refuse("12: no decision on the other's neighbour", loom -> loom.takeBack(6, 16), STATE);
        SOME.refuse("12: two of the check", loom -> loom.takeBack(13, 14), STATE);
        SOME.refuse("12: a record and itself", loom -> loom.takeBack(0, 0), STATE);
        SOME.refuse("12: a check record and itself", loom -> loom.takeBack(17, 17), STATE);
        FULL.refuse("12: the last two of 40", loom -> loom.takeBack(38, 39), STATE);
        CensusLoom loom = Towns.some();
        Check.due("12: there is one on 0 and 15", () -> loom.takeBack(0, 15), 0);
        Check.due("12: and on 16 and 7, the other way round", () -> loom.takeBack(16, 7), 0);
        Check.due("12: no more on 0 and 15", () -> loom.takeBack(15, 0), STATE);
        Check.due("12: no more on 16 and 7", () -> loom.takeBack(7, 16), STATE);
        CensusLoom last = Towns.full();
        last.decide(39, 38, false);
        Check.due("12: the last two of 40", () -> last.takeBack(38, 39), 0);
    }

    /** Terms, "their score is at least the upper bound", "less than that, but at least the lower bound". */
    private static void termsBounds() {
        // The score is 9.
        CensusLoom loom = two(0, 100, 50, 2, 100, 50);
        char[] links = {'y', 'y', '?', 'n', 'y', '?', 'n', 'y', '?', 'n'};
        int[][] bounds = {{8, 9}, {9, 9}, {9, 10}, {10, 10}, {0, 0}, {0, 30}, {30, 30}, {0, 9}, {0, 10}, {10, 30}};
        for (int i = 0; i < bounds.length; i++) {
            loom.setBounds(bounds[i][0], bounds[i][1]);
            Check.due("13: 9 within " + bounds[i][0] + " and " + bounds[i][1], () -> loom.link(0, 1), links[i]);
            Check.due("13: the other way round", () -> loom.link(1, 0), links[i]);
        }
    }

    /** The same at the least score, 0, and at the greatest, 27, which reaches no bound above it. */
    private static void termsBoundsOfExtremes() {
        CensusLoom least = two(0, 0, 0, 2, 999, 120);
        least.setBounds(0, 0);
        Check.due("13: 0 is at least 0", () -> least.link(0, 1), 'y');
        least.setBounds(0, 1);
        Check.due("13: 0 is less than 1, at least 0", () -> least.link(0, 1), '?');
        least.setBounds(1, 1);
        Check.due("13: 0 is less than 1", () -> least.link(0, 1), 'n');
        CensusLoom greatest = two(0, 0, 0, 0, 0, 0);
        greatest.setPoints('n', 9);
        greatest.setPoints('y', 9);
        greatest.setPoints('p', 9);
        greatest.setBounds(27, 27);
        Check.due("13: 27 is at least 27", () -> greatest.link(0, 1), 'y');
        greatest.setBounds(27, 28);
        Check.due("13: 27 is less than 28", () -> greatest.link(0, 1), '?');
        greatest.setBounds(28, 28);
        Check.due("13: 27 is less than both", () -> greatest.link(0, 1), 'n');
    }

    /** Terms, "if a clerk has decided", "no clerk has decided": a decision stands above each score and bound. */
    private static void termsDecisionsFirst() {
        int[][] bounds = {{0, 0}, {0, 30}, {30, 30}};
        for (int[] pair : bounds) {
            CensusLoom loom = two(0, 100, 50, 0, 100, 50);
            loom.setBounds(pair[0], pair[1]);
            loom.decide(0, 1, true);
            Check.due("13: decided to be the same", () -> loom.link(0, 1), 'y');
            Check.due("14: not open", loom::openPairs, 0);
            loom.decide(0, 1, false);
            Check.due("13: decided to be apart", () -> loom.link(0, 1), 'n');
            Check.due("14: not open", loom::openPairs, 0);
            loom.takeBack(0, 1);
            char due = pair[1] == 0 ? 'y' : pair[0] == 0 ? '?' : 'n';
            Check.due("13: by the score again", () -> loom.link(0, 1), due);
            Check.due("14: open again, if it is", loom::openPairs, due == '?' ? 1 : 0);
        }
    }

    /** Promise 13: two of the check are linked by their score alone. */
    private static void promise13Check() {
        CensusLoom loom = Towns.town();
        loom.addRecord('k', 0, 100, 50);
        loom.addRecord('k', 0, 100, 90);
        loom.addRecord('k', 0, 101, 50);
        loom.addRecord('k', 2, 900, 10);
        Check.due("13: linked, 5 and 3 and 0, is open", () -> loom.link(0, 1), '?');
        Check.due("13: 2 and 4 and 3 is linked", () -> loom.link(0, 2), 'y');
        Check.due("13: nothing is apart", () -> loom.link(0, 3), 'n');
        Check.due("14: none of them counts as open", loom::openPairs, 0);
    }

    private static CensusLoom ofLists(String lists) {
        CensusLoom loom = Towns.town();
        for (int record = 0; record < lists.length(); record++) {
            loom.addRecord(lists.charAt(record), 0, record * 20, 50);
        }
        return loom;
    }

    /** Promise 14, "those of two records of which at least one is of the census": none, one, and of all 40. */
    private static void promise14Lists() {
        // Each two have the score 4 + 3, which is open at first.
        Check.due("14: no record", () -> new CensusLoom().openPairs(), 0);
        Check.due("14: one of the census alone", () -> ofLists("c").openPairs(), 0);
        Check.due("14: one of the check alone", () -> ofLists("k").openPairs(), 0);
        Check.due("14: two of the census", () -> ofLists("cc").openPairs(), 1);
        Check.due("14: census and check", () -> ofLists("ck").openPairs(), 1);
        Check.due("14: check and census", () -> ofLists("kc").openPairs(), 1);
        Check.due("14: two of the check", () -> ofLists("kk").openPairs(), 0);
        Check.due("14: 40 of the census", () -> ofLists("c".repeat(40)).openPairs(), 780);
        Check.due("14: 40 of the check", () -> ofLists("k".repeat(40)).openPairs(), 0);
        Check.due("14: 20 and 20", () -> ofLists("c".repeat(20) + "k".repeat(20)).openPairs(), 590);
        Check.due("14: 39 of the check and a last one of the census",
                () -> ofLists("k".repeat(39) + "c").openPairs(), 39);
    }

    /** Promise 14, "the number of open pairs": from the lower bound on, below the upper one. */
    private static void promise14Bounds() {
        CensusLoom loom = ofLists("ckc");
        int[][] bounds = {{6, 9}, {7, 8}, {7, 7}, {8, 8}, {6, 7}, {0, 30}, {8, 30}, {0, 0}};
        int[] open = {3, 3, 0, 0, 0, 3, 0, 0};
        for (int i = 0; i < bounds.length; i++) {
            loom.setBounds(bounds[i][0], bounds[i][1]);
            Check.due("14: 7 within " + bounds[i][0] + " and " + bounds[i][1], loom::openPairs, open[i]);
        }
        CensusLoom doubles = Towns.town();
        for (int record = 0; record < 3; record++) {
            doubles.addRecord('c', 0, 100, 50);
        }
        doubles.setBounds(12, 12);
        Check.due("15: two doubles", doubles::doubleShare, 2.0f / 3.0f);
        doubles.addRecord('c', 0, 101, 50);
        doubles.setBounds(9, 12);
        Check.due("14: pairs with doubles are open too", doubles::openPairs, 3);
    }

    public static void main(String[] args) {
        termsPointsAtFirst();
        termsLastDigits();
        termsYearsBeside();
        termsPlaces();
        termsHalves();
        termsLeastAndGreatestScore();
        promise8Parts();
        promise8Points();
        promise8OnePart();
        promise9Lower();
        promise9Upper();
        termsBoundsAtFirst();
        promises10To13Records();
        promises10To13Same();
        promise10AllLists();
        promise11Check();
        promise11Pair();
        promise11InPlace();
        promises11And12Undone();
        promise12None();
        termsBounds();
        termsBoundsOfExtremes();
        termsDecisionsFirst();
        promise13Check();
        promise14Lists();
        promise14Bounds();
        Check.end();
    }
}
