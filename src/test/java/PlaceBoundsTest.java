import java.util.function.Consumer;

/** Promises 16 to 18, and of 26 what is about load: every bound and refusal that is named. */
public final class PlaceBoundsTest {
    private static final Due DUE = new Due();
    private static final Bounds BOUNDS = new Bounds(DUE);
    private static final int BAD_ARG = StatementTables.BAD_ARG;
    private static final int NONE = StatementTables.NONE;
    private static final int NOT_UNIQUE = StatementTables.NOT_UNIQUE;
    private static final int UNCHECKED = StatementTables.UNCHECKED;
    private static final int[] BAD_PLACES =
        {-1, 4, 5, 6, Integer.MIN_VALUE, Integer.MAX_VALUE};
    private static final int W = Sample.W;
    private static final int E = Sample.E;

    public static void main(String[] args) {
        savePlace();
        saveNumberOfRows();
        saveLosesWhatWasThere();
        savedRowsStay();
        loadPlace();
        loadNothingSaved();
        loadNotUnique();
        loadUnchecked();
        loadOrder();
        loadNumberOfRows();
        differencesPlace();
        differencesNothingSaved();
        differencesNumber();
        DUE.end();
    }

    /** "BAD_ARG if s is not 0 to 3." */
    private static void savePlace() {
        for (int s : BAD_PLACES) {
            BOUNDS.refused("16: place " + s, Sample.plain(), t -> t.save(s), BAD_ARG);
        }
        for (int s = 0; s <= 3; s++) {
            int place = s;
            BOUNDS.changes("16: place " + s, Sample.plain(), t -> t.save(place), 6, "place " + s);
        }
    }

    /** "Otherwise the number of rows": none to 40. Save tests no condition. */
    private static void saveNumberOfRows() {
        DUE.due("16: no row", new StatementTables().save(3), 0);
        BOUNDS.changes("16: 40 rows", Sample.full(t -> { }), t -> t.save(3), 40, "place 3");
        BOUNDS.changes("16: no row is saved, too", t -> { }, t -> t.save(0), 0, "place 0");
        BOUNDS.changes("16: rows that do not meet the check",
                Sample.with(t -> t.parameter(2, -99)), t -> t.save(3), 6, "place 3");
    }

    /** "what was saved there is lost". */
    private static void saveLosesWhatWasThere() {
        StatementTables t = new StatementTables();
        for (int k = -50; k < -10; k++) {
            t.insert(k, 1, 1, 1);
        }
        t.save(0);
        t.delete(0);
        t.insert(7, 8, 9, 10);
        DUE.due("16: one row", t.save(0), 1);
        DUE.due("16: nothing else in the place", t.differences(0), 0);
        t.delete(0);
        DUE.due("16: one row", t.load(0), 1);
        DUE.due("16: that row", t.value(7, 3), 10);
        t.delete(0);
        DUE.due("16: no row", t.save(0), 0);
        t.insert(1, 1, 1, 1);
        DUE.due("16: no row", t.load(0), 0);
        DUE.due("16: no row", t.rows(), 0);
    }

    /** Statements change the table, not the places. */
    private static void savedRowsStay() {
        Consumer<StatementTables> saved = Sample.with(t -> t.save(3));
        BOUNDS.changes("16: insert", saved, t -> t.insert(1, 1, 1, 1), 7, "rows");
        BOUNDS.changes("16: delete", saved, t -> t.delete(Sample.BELOW_0), 2, "rows");
        BOUNDS.changes("16: update", saved, t -> t.update(Sample.ALL, 1, Sample.ALL), 6, "rows");
        BOUNDS.changes("16: load of another", saved, t -> t.load(0), 2, "rows");
    }

    /** "s not 0 to 3 answers BAD_ARG". */
    private static void loadPlace() {
        for (int s : BAD_PLACES) {
            BOUNDS.refused("17: place " + s, Sample.plain(), t -> t.load(s), BAD_ARG);
            DUE.due("17: place " + s + " of a new object", new StatementTables().load(s),
                    BAD_ARG);
        }
        for (int s = 0; s <= 3; s++) {
            int place = s;
            BOUNDS.changes("17: place " + s, Sample.with(t -> {
                Terms.express(t, W, "key 3 =");
                t.save(place);
                t.delete(W);
            }), t -> t.load(place), 6, "rows");
        }
    }

    /** "nothing was saved there answers NONE". */
    private static void loadNothingSaved() {
        BOUNDS.refused("17: nothing saved", Sample.plain(), t -> t.load(3), NONE);
        for (int s = 0; s <= 3; s++) {
            int place = s;
            BOUNDS.refused("17: of a new object", t -> t.insert(1, 1, 1, 1), t -> t.load(place),
                    NONE);
        }
        BOUNDS.changes("17: no row was saved", Sample.plain(), t -> t.load(1), 0, "rows");
        BOUNDS.refused("17: a refused save has saved nothing", Sample.with(t -> t.save(4)),
                t -> t.load(3), NONE);
    }

    /** Place 3 has the rows of the sample, with one c twice; the table has no row. */
    private static Consumer<StatementTables> twiceSaved(int p2) {
        return Sample.with(t -> {
            t.unique(0);
            Terms.express(t, W, "key -50 = key 50 = or");
            Terms.express(t, E, "60");
            t.update(W, 3, E);
            t.save(3);
            t.delete(W);
            t.unique(1);
            t.parameter(2, p2);
        });
    }

    /** "NOT_UNIQUE". */
    private static void loadNotUnique() {
        BOUNDS.refused("17: two rows with the same c", twiceSaved(70), t -> t.load(3),
                NOT_UNIQUE);
        Consumer<StatementTables> off = t -> {
            twiceSaved(70).accept(t);
            t.unique(0);
        };
        BOUNDS.changes("17: unique is off", off, t -> t.load(3), 6, "rows");
        BOUNDS.changes("17: the c of rows that go does not matter", Sample.plain(),
                t -> t.load(2), 5, "rows");
    }

    /** "UNCHECKED", for every row as it would be then, with the parameters of now. */
    private static void loadUnchecked() {
        for (int least : new int[] {11, 12, 16, -99}) {
            BOUNDS.refused("17: c not below " + least, Sample.with(t -> t.parameter(2, least)),
                    t -> t.load(2), UNCHECKED);
        }
        BOUNDS.changes("17: rows that go do not matter", Sample.with(t -> t.parameter(2, 17)),
                t -> t.load(2), 5, "rows");
        BOUNDS.changes("17: two rows", Sample.with(t -> t.parameter(2, 13)), t -> t.load(0), 2,
                "rows");
        BOUNDS.changes("17: no row is checked", Sample.with(t -> t.parameter(2, -99)),
                t -> t.load(1), 0, "rows");
        Consumer<StatementTables> fault = Sample.with(t -> {
            Terms.express(t, E, "1 p0 / 1 or");
            t.check(E);
            t.parameter(0, 0);
        });
        BOUNDS.refused("17: the check is a fault", fault, t -> t.load(2), UNCHECKED);
        BOUNDS.refused("26: also for rows that do not change", Sample.with(t -> {
            t.save(3);
            t.parameter(2, 12);
        }), t -> t.load(3), UNCHECKED);
        BOUNDS.changes("17: check is off", Sample.with(t -> {
            t.parameter(2, -99);
            t.uncheck();
        }), t -> t.load(2), 5, "rows");
    }

    /** "Tested in this order": NOT_UNIQUE before UNCHECKED; NONE needs no row to be tested. */
    private static void loadOrder() {
        for (int least : new int[] {60, 14, -99}) {
            BOUNDS.refused("17: NOT_UNIQUE before UNCHECKED", twiceSaved(least), t -> t.load(3),
                    NOT_UNIQUE);
        }
        BOUNDS.refused("17: NONE, though rows do not meet the check",
                Sample.with(t -> t.parameter(2, -99)), t -> t.load(3), NONE);
        for (int s : BAD_PLACES) {
            BOUNDS.refused("17: BAD_ARG, though rows do not meet the check",
                    Sample.with(t -> t.parameter(2, -99)), t -> t.load(s), BAD_ARG);
        }
    }

    /** "Otherwise the number of rows": of the rows loaded, none to 40. */
    private static void loadNumberOfRows() {
        Consumer<StatementTables> fullInPlace = Sample.full(t -> {
            t.save(3);
            t.delete(Sample.BELOW_0);
        });
        BOUNDS.changes("17: 40 rows", fullInPlace, t -> t.load(3), 40, "rows");
        BOUNDS.changes("17: no row in place of 40", Sample.full(t -> { }), t -> t.load(1), 0,
                "rows");
        BOUNDS.leaves("17: the rows that are there", Sample.with(t -> t.save(3)), t -> t.load(3),
                6);
        BOUNDS.changes("17: twice", Sample.plain(), t -> t.load(0) + t.load(0), 4, "rows");
    }

    /** "BAD_ARG if s is not 0 to 3". */
    private static void differencesPlace() {
        for (int s : BAD_PLACES) {
            BOUNDS.refused("18: place " + s, Sample.plain(), t -> t.differences(s), BAD_ARG);
            DUE.due("18: place " + s + " of a new object", new StatementTables().differences(s),
                    BAD_ARG);
        }
        int[] due = {4, 6, 1};
        for (int s = 0; s <= 2; s++) {
            int place = s;
            BOUNDS.leaves("18: place " + s, Sample.plain(), t -> t.differences(place), due[s]);
        }
    }

    /** "NONE if nothing was saved there". */
    private static void differencesNothingSaved() {
        BOUNDS.refused("18: nothing saved", Sample.plain(), t -> t.differences(3), NONE);
        for (int s = 0; s <= 3; s++) {
            DUE.due("18: nothing saved, no row", new StatementTables().differences(s), NONE);
        }
        BOUNDS.refused("18: a refused save has saved nothing", Sample.with(t -> t.save(4)),
                t -> t.differences(3), NONE);
        BOUNDS.leaves("18: no row was saved", Sample.with(t -> t.delete(Sample.ALL)),
                t -> t.differences(1), 0);
    }

    /** "there is a row in the table or in place s, but not the same row in both": 0 to 80. */
    private static void differencesNumber() {
        BOUNDS.leaves("18: the same", Sample.with(t -> t.save(3)), t -> t.differences(3), 0);
        StatementTables t = new StatementTables();
        for (int k = -50; k < -10; k++) {
            t.insert(k, 1, 2, 3);
        }
        t.save(0);
        t.delete(0);
        DUE.due("18: 40 in the place", t.differences(0), 40);
        for (int k = 11; k <= 50; k++) {
            t.insert(k, 1, 2, 3);
        }
        DUE.due("18: 40 in each, no key in both", t.differences(0), 80);
        Terms.express(t, 1, "key 61 -");
        t.update(0, 0, 1);
        DUE.due("18: 40 in both, the same", t.differences(0), 0);
        for (int col = 1; col <= 3; col++) {
            t.load(0);
            Terms.express(t, 1, "9");
            t.update(0, col, 1);
            DUE.due("18: 40 in both, another column " + col, t.differences(0), 40);
        }
        StatementTables u = new StatementTables();
        u.insert(0, 0, 0, 0);
        u.save(0);
        u.delete(0);
        DUE.due("18: a row of zeroes and no row", u.differences(0), 1);
        u.save(0);
        u.insert(0, 0, 0, 0);
        DUE.due("18: no row and a row of zeroes", u.differences(0), 1);
    }
}
