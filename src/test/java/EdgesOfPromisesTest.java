/** The edges that the document names in promises 1 to 38: each range on both sides, each refused call, and what is behind it. */
public final class EdgesOfPromisesTest {
    private static final int MIN = Checks.MIN;
    private static final int MAX = Checks.MAX;
    private static final Class<?> INDEX = Checks.INDEX;
    private static final Class<?> ARGUMENT = Checks.ARGUMENT;
    private static final Class<?> STATE = Checks.STATE;

    // Objects for refused calls. RICH has 4 columns, 6 rows (0 head, 1 to 4 body, 5 foot) and 9 cells.
    private static final Checks.Make NONE = TablePages::new;
    private static final Checks.Make COLUMN = () -> Checks.columns(2, 50);
    private static final Checks.Make SIX = () -> Checks.columns(0, 1, 1, 5, 2, 20, 0, 1, 1, 9, 2, 30);
    private static final Checks.Make RICH = EdgesOfPromisesTest::rich;
    private static final Checks.Make NO_ROOM = () -> {
        TablePages x = rich();
        x.setPaper(40, 1);
        return x;
    };

    interface IntCall {
        void on(TablePages x, int number);
    }

    private static TablePages rich() {
        TablePages x = Checks.columns(0, 1, 1, 8, 2, 20, 0, 1);
        x.row(0, 0, false);
        x.row(1, 1, true);
        x.row(1, 1, false);
        x.row(1, 2, true);
        x.row(1, 0, false);
        x.row(2, 0, false);
        Checks.wide(x, 0, 0, 2, 6, 5);
        x.word(x.cell(1, 0, 1, 1), 6, 3);
        x.note(1, 2);
        Checks.figure(x, 1, 2, 12345, 2);
        x.note(Checks.figure(x, 2, 2, -500, 0), 1);
        x.sort(2, false);
        int two = x.cell(3, 0, 2, 1);
        for (int i = 0; i < 3; i++) x.word(two, 7, 0);
        Checks.words(x, 5, 1, 8);
        x.cell(3, 2, 1, 1);
        x.word(x.cell(3, 3, 2, 1), 5, 0);
        Checks.figure(x, 1, 3, 900, 0);
        x.totalled(2);
        x.border(0, 1, 2, 3);
        x.border(1, 2, 0, 4);
        x.border(2, 1, 3, 2);
        x.border(3, 0, 0, 1);
        x.setPaper(40, 9);
        x.hide(3);
        x.look();
        return x;
    }

    private static void refusedFor(int[] numbers, Checks.Make make, Class<?> by, String what, IntCall call) {
        for (int number : numbers) {
            Checks.changesNothing(make, by, what.replace("#", String.valueOf(number)), x -> call.on(x, number));
        }
    }

    private static int[] outside(int least, int most) {
        return new int[] {least - 1, most + 1, MIN, MAX, -MAX};
    }

    /** There are so many of what is numbered from 0: numbers out of these are refused, first of all. */
    private static void noSuch(int count, Checks.Make make, String what, IntCall call) {
        refusedFor(outside(0, count - 1), make, INDEX, what, call);
    }

    // ---- columns, rows, cells

    private static void newObject() {
        Checks.holds("Promise 1: Begins without columns", () -> {
            TablePages x = new TablePages();
            Checks.refused(x, INDEX, "column 0", y -> y.width(0));
            Checks.refused(x, STATE, "a row", y -> y.row(0, 0, false));
            Checks.due("the first column", x.column(0, 1), 0);
        });
        Checks.holds("Promise 1: and rows", () -> {
            TablePages x = Checks.columns(0, 1);
            Checks.refused(x, INDEX, "row 0", y -> y.height(0));
            Checks.refused(x, INDEX, "a cell", y -> y.cell(0, 0, 1, 1));
            Checks.due("the table's height", x.tableHeight(), 0);
            Checks.due("the first row", x.row(2, 0, false), 0);
        });
        Checks.holds("Promise 1: notes stand on their pages", () -> {
            TablePages x = Checks.sheet(2, 1, 1);
            x.note(x.cell(0, 0, 1, 1), 1);
            Checks.due("on page 0", Checks.notes(x), "1 0");
            Checks.due("at the end then", x.notesAtEnd(), true);
        });
    }

    private static void column() {
        Checks.holds("Promise 2: kind 0 of content, 1 fixed, 2 a share", () -> {
            for (int kind = 0; kind < 3; kind++) {
                TablePages x = Checks.columns(kind, 10);
                Checks.body(x, 1);
                Checks.due("its width", x.width(0), kind == 0 ? 0 : kind == 1 ? 10 : 6);
                Checks.words(x, 0, 0, 7, 7);
                Checks.due("with words of 7 and 7", x.width(0), kind == 0 ? 15 : kind == 1 ? 10 : 7);
            }
        });
        Checks.holds("Promise 2: value 1 to 60", () -> {
            Checks.due("1", Checks.columns(1, 1).width(0), 1);
            Checks.due("60", Checks.columns(1, 60).width(0), 60);
            Checks.due("60 hundredths", Checks.columns(2, 60).width(0), 36);
        });
        Checks.holds("Promise 2: for a column of content it counts for nothing, but is refused out of its range all the same", () -> {
            for (int value : new int[] {1, 30, 60}) Checks.due("value " + value, Checks.columns(0, value).width(0), 0);
            refusedFor(outside(1, 60), COLUMN, ARGUMENT, "column(0, #)", (x, n) -> x.column(0, n));
        });
        Checks.holds("Promise 2: Throws IllegalArgumentException if kind or value is out of range", () -> {
            refusedFor(outside(0, 2), NONE, ARGUMENT, "column(#, 1)", (x, n) -> x.column(n, 1));
            refusedFor(outside(0, 2), COLUMN, ARGUMENT, "column(#, 60)", (x, n) -> x.column(n, 60));
            refusedFor(outside(1, 60), NONE, ARGUMENT, "column(1, #)", (x, n) -> x.column(1, n));
            refusedFor(outside(1, 60), COLUMN, ARGUMENT, "column(2, #)", (x, n) -> x.column(2, n));
        });
        Checks.holds("Promise 2: Throws IllegalStateException if there are 6", () -> {
            for (int kind = 0; kind < 3; kind++) {
                int k = kind;
                Checks.changesNothing(SIX, STATE, "a seventh of kind " + k, x -> x.column(k, 60));
            }
            TablePages five = Checks.columns(0, 1, 0, 1, 0, 1, 0, 1, 0, 1);
            Checks.due("a sixth", five.column(0, 1), 5);
        });
        Checks.holds("Promise 2: or there is a row", () -> {
            for (int part = 0; part < 3; part++) {
                int p = part;
                Checks.Make make = () -> {
                    TablePages x = Checks.columns(2, 50);
                    x.row(p, 0, false);
                    return x;
                };
                Checks.changesNothing(make, STATE, "a column behind a row of part " + p, x -> x.column(0, 1));
            }
        });
        Checks.holds("Promise 2: the first one of the throws clause", () -> {
            Checks.changesNothing(SIX, ARGUMENT, "a seventh of kind 3", x -> x.column(3, 1));
            Checks.changesNothing(SIX, ARGUMENT, "a seventh of value 0", x -> x.column(0, 0));
            Checks.changesNothing(RICH, ARGUMENT, "one behind a row, of kind -1", x -> x.column(-1, 1));
            Checks.changesNothing(RICH, ARGUMENT, "one behind a row, of value 61", x -> x.column(0, 61));
        });
    }

    private static Checks.Make withFull(int part, int count) {
        return () -> {
            TablePages x = Checks.columns(0, 1);
            for (int i = 0; i < count; i++) x.row(part, 0, false);
            return x;
        };
    }

    private static void row() {
        Checks.holds("Promise 3: part 0 head, 1 body, 2 foot", () -> {
            TablePages x = Checks.columns(0, 1);
            for (int part = 0; part < 3; part++) Checks.due("row", x.row(part, 0, false), part);
            Checks.due("the body's height", x.tableHeight(), 1);
            Checks.refused(x, ARGUMENT, "the head is no body row", y -> y.pageOf(0));
            Checks.due("the body row's page", x.pageOf(1), 0);
            Checks.refused(x, ARGUMENT, "the foot is no body row", y -> y.pageOf(2));
            x.border(1, 1, 0, 3);
            Checks.due("the head is above the body", x.edge(0, 0, 2), 32);
        });
        Checks.holds("Promise 3: group 0 to 9", () -> {
            for (int group : new int[] {0, 1, 9}) {
                TablePages x = Checks.columns(0, 1);
                Checks.due("a row of group " + group, x.row(1, group, false), 0);
                x.totalled(0);
                Checks.due("its lines", x.used(0), group == 0 ? 2 : 3);
            }
        });
        Checks.holds("Promise 3: for a head or foot row it counts for nothing, but is refused out of its range all the same", () -> {
            for (int part = 0; part < 3; part += 2) {
                int p = part;
                TablePages x = Checks.columns(0, 1);
                x.row(p, 9, false);
                x.totalled(0);
                Checks.due("no subtotal in part " + p, x.used(0), 2);
                refusedFor(outside(0, 9), RICH, ARGUMENT, "row(" + p + ", #, false)", (y, n) -> y.row(p, n, false));
            }
        });
        Checks.holds("Promise 3: whether it may break; likewise", () -> {
            TablePages x = Checks.columns(1, 9);
            x.row(0, 0, true);
            Checks.tall(x, 0, 0, 1, 3);
            x.row(1, 0, false);
            x.setPaper(60, 3);
            Checks.refused(x, STATE, "a head that may break does not", y -> y.pages());
            x.setPaper(60, 4);
            Checks.due("it is whole", x.used(0), 4);
            Checks.due("a body row may", Checks.spread(Checks.sheet(4, 2, -3), 1), "2 1");
        });
        Checks.holds("Promise 3: Makes a row, behind all of its part", () -> {
            TablePages x = Checks.content(1, 2);
            x.border(1, x.row(1, 0, false), 0, 3);
            Checks.due("below row 1", x.edge(1, 0, 2), 32);
            Checks.due("not below row 0", x.edge(0, 0, 2), 0);
        });
        Checks.holds("Promise 3: Throws IllegalArgumentException if part or group is out of range", () -> {
            refusedFor(outside(0, 2), COLUMN, ARGUMENT, "row(#, 0, true)", (x, n) -> x.row(n, 0, true));
            refusedFor(outside(0, 2), RICH, ARGUMENT, "row(#, 9, false)", (x, n) -> x.row(n, 9, false));
            refusedFor(outside(0, 9), COLUMN, ARGUMENT, "row(1, #, true)", (x, n) -> x.row(1, n, true));
            refusedFor(outside(0, 9), RICH, ARGUMENT, "row(1, #, false)", (x, n) -> x.row(1, n, false));
        });
        Checks.holds("Promise 3: Throws IllegalStateException if there is no column", () -> {
            for (int part = 0; part < 3; part++) {
                int p = part;
                Checks.changesNothing(NONE, STATE, "a row of part " + p, x -> x.row(p, 0, true));
            }
        });
        Checks.holds("Promise 3: or the part has as many rows as it can", () -> {
            int[] most = {3, 24, 2};
            for (int part = 0; part < 3; part++) {
                int p = part;
                Checks.changesNothing(withFull(p, most[p]), STATE, "one more of part " + p, x -> x.row(p, 9, true));
                Checks.due("the last of part " + p, withFull(p, most[p] - 1).make().row(p, 9, true), most[p] - 1);
            }
        });
        Checks.holds("Promise 3: the first one of the throws clause", () -> {
            Checks.changesNothing(NONE, ARGUMENT, "no column, part 3", x -> x.row(3, 0, true));
            Checks.changesNothing(NONE, ARGUMENT, "no column, group 10", x -> x.row(1, 10, true));
            Checks.changesNothing(withFull(2, 2), ARGUMENT, "a third foot of group -1", x -> x.row(2, -1, true));
        });
    }

    private static TablePages hundred() {
        TablePages x = Checks.content(5, 24);
        for (int i = 0; i < 100; i++) x.cell(i / 5, i % 5, 1, 1);
        return x;
    }

    private static void cell() {
        Checks.holds("Promise 4: rows 1 to 4, how many it spans, from row on, as they stand now", () -> {
            for (int rows = 1; rows <= 4; rows++) {
                TablePages x = Checks.content(1, 6);
                Checks.due("a cell of " + rows + " rows", x.cell(1, 0, rows, 1), 0);
                for (int row = 0; row < 6; row++) Checks.due("row " + row, x.at(row, 0), row >= 1 && row <= rows ? 0 : -1);
            }
            TablePages y = Checks.content(2, 3);
            for (int i = 0; i < 3; i++) Checks.figure(y, i, 0, 100 * (3 - i), 0);
            y.sort(0, false);
            Checks.due("2, 1, 0: from row 1 on", y.cell(1, 1, 2, 1), 3);
            Checks.due("row 0 is below it", y.at(0, 1), 3);
            Checks.due("row 2 is above it", y.at(2, 1), -1);
        });
        Checks.holds("Promise 4: columns 1 to 6, likewise from column on, hidden ones included", () -> {
            for (int columns = 1; columns <= 6; columns++) {
                TablePages x = Checks.content(6, 1);
                Checks.due("a cell of " + columns + " columns", x.cell(0, 0, 1, columns), 0);
                for (int c = 0; c < 6; c++) Checks.due("column " + c, x.at(0, c), c < columns ? 0 : -1);
            }
            TablePages y = Checks.content(4, 1);
            y.hide(1);
            y.hide(3);
            Checks.due("from a hidden column on over another", y.cell(0, 1, 1, 3), 0);
            Checks.due("its hidden place", y.at(0, 3), 0);
        });
        Checks.holds("Promise 4: Throws IndexOutOfBoundsException if there is no such row or column", () -> {
            noSuch(6, RICH, "cell(#, 1, 1, 1)", (x, n) -> x.cell(n, 1, 1, 1));
            noSuch(4, RICH, "cell(1, #, 1, 1)", (x, n) -> x.cell(1, n, 1, 1));
            Checks.changesNothing(COLUMN, INDEX, "without rows", x -> x.cell(0, 0, 1, 1));
            Checks.changesNothing(NONE, INDEX, "without columns", x -> x.cell(0, 0, 1, 1));
        });
        Checks.holds("Promise 4: Throws IllegalArgumentException if rows or columns is out of range", () -> {
            refusedFor(outside(1, 4), RICH, ARGUMENT, "cell(1, 1, #, 1)", (x, n) -> x.cell(1, 1, n, 1));
            refusedFor(outside(1, 6), RICH, ARGUMENT, "cell(1, 1, 1, #)", (x, n) -> x.cell(1, 1, 1, n));
        });
        Checks.holds("Promise 4: Throws IllegalStateException if there are 100", () -> {
            Checks.changesNothing(EdgesOfPromisesTest::hundred, STATE, "a 101st", x -> x.cell(23, 0, 1, 1));
        });
        Checks.holds("Promise 4: the part has not so many rows", () -> {
            Checks.changesNothing(RICH, STATE, "2 heads of 1", x -> x.cell(0, 2, 2, 1));
            Checks.changesNothing(RICH, STATE, "2 feet of 1", x -> x.cell(5, 0, 2, 1));
            Checks.changesNothing(RICH, STATE, "row 4 is the last of the body", x -> x.cell(4, 1, 2, 1));
            Checks.changesNothing(RICH, STATE, "row 1 is the second of 4 in the body", x -> x.cell(1, 1, 4, 1));
            Checks.due("row 2 is the first of 4 in the body", rich().cell(2, 1, 4, 1), 9);
            int[] most = {3, 24, 2};
            for (int part = 0; part < 3; part++) {
                int p = part;
                int last = Math.min(4, most[p]);
                for (int rows = 1; rows <= last; rows++) {
                    int r = rows;
                    Checks.Make make = withFull(p, most[p]);
                    Checks.due(r + " of the last of part " + p, make.make().cell(most[p] - r, 0, r, 1), 0);
                    if (r < 4) Checks.changesNothing(make, STATE, "one more of part " + p, x -> x.cell(most[p] - r, 0, r + 1, 1));
                }
            }
        });
        Checks.holds("Promise 4: or the table has not so many rows or columns", () -> {
            Checks.changesNothing(RICH, STATE, "2 from the last column on", x -> x.cell(4, 3, 1, 2));
            Checks.changesNothing(RICH, STATE, "4 from column 1 on", x -> x.cell(2, 1, 1, 4));
            Checks.changesNothing(RICH, STATE, "6 of 4", x -> x.cell(2, 0, 1, 6));
            Checks.due("2 from the last but one on", rich().cell(4, 1, 1, 2), 9);
        });
        Checks.holds("Promise 4: or a place is of another cell", () -> {
            Checks.changesNothing(RICH, STATE, "its only place", x -> x.cell(1, 0, 1, 1));
            Checks.changesNothing(RICH, STATE, "the second of a row-spanning cell", x -> x.cell(4, 0, 1, 1));
            Checks.changesNothing(RICH, STATE, "the second of a column-spanning cell", x -> x.cell(0, 1, 1, 1));
            Checks.changesNothing(RICH, STATE, "its last place", x -> x.cell(2, 0, 1, 3));
            Checks.changesNothing(RICH, STATE, "its lowest place", x -> x.cell(2, 0, 2, 1));
            Checks.changesNothing(RICH, STATE, "a place of a cell that is out", x -> x.cell(4, 3, 1, 1));
            Checks.changesNothing(RICH, STATE, "of an empty cell", x -> x.cell(3, 2, 1, 1));
        });
        Checks.holds("Promise 4: the first one of the throws clause", () -> {
            Checks.changesNothing(RICH, INDEX, "no row, 0 rows", x -> x.cell(6, 0, 0, 1));
            Checks.changesNothing(RICH, INDEX, "no column, 7 columns", x -> x.cell(0, 4, 1, 7));
            Checks.changesNothing(RICH, ARGUMENT, "5 rows from the last on", x -> x.cell(4, 1, 5, 1));
            Checks.changesNothing(RICH, ARGUMENT, "0 columns on another cell", x -> x.cell(1, 0, 1, 0));
            Checks.changesNothing(EdgesOfPromisesTest::hundred, ARGUMENT, "a 101st of 5 rows", x -> x.cell(20, 0, 5, 1));
            Checks.changesNothing(EdgesOfPromisesTest::hundred, INDEX, "a 101st in no row", x -> x.cell(24, 0, 1, 1));
        });
    }

    private static TablePages twelve() {
        TablePages x = Checks.content(1, 1);
        Checks.words(x, 0, 0, 1, 2, 3, 4, 5, 6, 7, 8, 9, 10, 11, 12);
        return x;
    }

    private static void word() {
        Checks.holds("Promise 5: length 1 to 20", () -> {
            TablePages x = Checks.content(2, 1);
            Checks.due("1", x.word(x.cell(0, 0, 1, 1), 1, 0), 1);
            Checks.due("20", x.word(x.cell(0, 1, 1, 1), 20, 0), 1);
            Checks.due("widths", Checks.mosts(x, 2), "1 20");
        });
        Checks.holds("Promise 5: cut 0 for none, or behind how many letters, 1 to length - 1", () -> {
            for (int length = 2; length <= 20; length += 9) {
                TablePages x = Checks.content(2, 1);
                x.word(x.cell(0, 0, 1, 1), length, 1);
                x.word(x.cell(0, 1, 1, 1), length, length - 1);
                Checks.due("cut first", x.least(0), Math.max(2, length - 1));
                Checks.due("cut last", x.least(1), length);
                int l = length;
                Checks.refused(x, ARGUMENT, "cut behind all", y -> y.word(0, l, l));
                Checks.refused(x, ARGUMENT, "cut behind -1", y -> y.word(0, l, -1));
            }
            TablePages one = Checks.content(1, 1);
            one.cell(0, 0, 1, 1);
            Checks.refused(one, ARGUMENT, "one letter cut behind 1", y -> y.word(0, 1, 1));
            Checks.due("one letter, no cut", one.word(0, 1, 0), 1);
        });
        Checks.holds("Promise 5: Returns how many words the cell has then", () -> {
            TablePages x = Checks.content(1, 1);
            x.cell(0, 0, 1, 1);
            for (int i = 1; i <= 12; i++) Checks.due("word " + i, x.word(0, i, 0), i);
            x.empty(0);
            Checks.due("behind empty", x.word(0, 1, 0), 1);
        });
        Checks.holds("Promise 5: Throws IndexOutOfBoundsException if there is no such cell", () -> {
            noSuch(9, RICH, "word(#, 1, 0)", (x, n) -> x.word(n, 1, 0));
            Checks.changesNothing(NONE, INDEX, "word(0, 1, 0)", x -> x.word(0, 1, 0));
        });
        Checks.holds("Promise 5: Throws IllegalArgumentException if length or cut is out of range", () -> {
            refusedFor(outside(1, 20), RICH, ARGUMENT, "word(1, #, 0)", (x, n) -> x.word(1, n, 0));
            refusedFor(outside(0, 9), RICH, ARGUMENT, "word(1, 10, #)", (x, n) -> x.word(1, 10, n));
            refusedFor(outside(0, 0), RICH, ARGUMENT, "word(1, 1, #)", (x, n) -> x.word(1, 1, n));
            refusedFor(outside(0, 19), RICH, ARGUMENT, "word(1, 20, #)", (x, n) -> x.word(1, 20, n));
        });
        Checks.holds("Promise 5: Throws IllegalStateException if the cell has a figure", () -> {
            Checks.changesNothing(RICH, STATE, "a word to a figure", x -> x.word(2, 5, 0));
            Checks.changesNothing(RICH, STATE, "to a figure that is out", x -> x.word(8, 5, 0));
        });
        Checks.holds("Promise 5: or 12 words", () -> {
            Checks.changesNothing(EdgesOfPromisesTest::twelve, STATE, "a 13th", x -> x.word(0, 1, 0));
        });
        Checks.holds("Promise 5: the first one of the throws clause", () -> {
            Checks.changesNothing(RICH, INDEX, "no cell, no length", x -> x.word(9, 0, 0));
            Checks.changesNothing(RICH, ARGUMENT, "a word of 21 to a figure", x -> x.word(2, 21, 0));
            Checks.changesNothing(EdgesOfPromisesTest::twelve, ARGUMENT, "a 13th with a cut behind 1", x -> x.word(0, 1, 1));
        });
    }

    private static void figure() {
        Checks.holds("Promise 6: Gives a cell a figure, in place of the one that it may have", () -> {
            TablePages x = Checks.content(1, 1);
            x.cell(0, 0, 1, 1);
            x.figure(0, 12345, 2);
            Checks.due("123.45", x.total(0) * 10 + x.least(0), 123456);
            x.figure(0, -200, 0);
            Checks.due("-2", x.total(0), -200);
            Checks.due("its width", x.least(0), 2);
            Checks.due("empty() of it", x.empty(0), 0);
            Checks.due("none", x.total(0), 0);
        });
        Checks.holds("Promise 6: hundredths -1000000 to 1000000", () -> {
            for (int decimals = 0; decimals <= 2; decimals++) {
                for (int hundredths : new int[] {-1000000, 0, 1000000}) {
                    TablePages x = Checks.content(1, 1);
                    Checks.figure(x, 0, 0, hundredths, decimals);
                    Checks.due("the sum", x.total(0), hundredths);
                }
            }
            refusedFor(outside(-1000000, 1000000), RICH, ARGUMENT, "figure(2, #, 2)", (x, n) -> x.figure(2, n, 2));
            refusedFor(new int[] {-1000100, 1000100}, RICH, ARGUMENT, "figure(2, #, 0)", (x, n) -> x.figure(2, n, 0));
            refusedFor(new int[] {-1000010, 1000010}, RICH, ARGUMENT, "figure(2, #, 1)", (x, n) -> x.figure(2, n, 1));
        });
        Checks.holds("Promise 6: a multiple of 100 if it shows no decimals", () -> {
            refusedFor(new int[] {1, 10, 50, 99, 101, 150, -1, -10, -99, -101, 999990, -999999}, RICH, ARGUMENT,
                "figure(2, #, 0)", (x, n) -> x.figure(2, n, 0));
            for (int hundredths : new int[] {0, 100, -100, 999900, -999900}) {
                TablePages x = Checks.content(1, 1);
                Checks.figure(x, 0, 0, hundredths, 0);
                Checks.due("a multiple", x.total(0), hundredths);
            }
        });
        Checks.holds("Promise 6: of 10 if it shows one", () -> {
            refusedFor(new int[] {1, 5, 9, 11, 99, 101, -1, -9, -11, 999999, -999991}, RICH, ARGUMENT, "figure(2, #, 1)",
                (x, n) -> x.figure(2, n, 1));
            for (int hundredths : new int[] {0, 10, -10, 100, 999990, -999990}) {
                TablePages x = Checks.content(1, 1);
                Checks.figure(x, 0, 0, hundredths, 1);
                Checks.due("a multiple", x.total(0), hundredths);
            }
        });
        Checks.holds("Promise 6: decimals 0 to 2", () -> {
            refusedFor(outside(0, 2), RICH, ARGUMENT, "figure(2, 100, #)", (x, n) -> x.figure(2, 100, n));
            refusedFor(outside(0, 2), RICH, ARGUMENT, "figure(6, 0, #)", (x, n) -> x.figure(6, 0, n));
        });
        Checks.holds("Promise 6: with 2 decimals any number of hundredths", () -> {
            for (int hundredths : new int[] {1, -1, 999999, -999999, 5, 50}) {
                TablePages x = Checks.content(1, 1);
                Checks.figure(x, 0, 0, hundredths, 2);
                Checks.due("taken", x.total(0), hundredths);
            }
        });
        Checks.holds("Promise 6: Throws IndexOutOfBoundsException if there is no such cell", () ->
            noSuch(9, RICH, "figure(#, 100, 0)", (x, n) -> x.figure(n, 100, 0)));
        Checks.holds("Promise 6: Throws IllegalStateException if the cell has words", () -> {
            Checks.changesNothing(RICH, STATE, "a figure to words", x -> x.figure(5, 100, 0));
            TablePages x = Checks.content(1, 1);
            Checks.words(x, 0, 0, 1);
            x.empty(0);
            x.figure(0, 100, 0);
            Checks.due("to none any more", x.total(0), 100);
        });
        Checks.holds("Promise 6: or spans several rows or columns", () -> {
            Checks.Make make = () -> {
                TablePages x = Checks.content(3, 3);
                x.cell(0, 0, 2, 1);
                x.cell(0, 1, 1, 2);
                x.cell(1, 1, 2, 2);
                x.hide(2);
                return x;
            };
            refusedFor(new int[] {0, 1, 2}, make, STATE, "figure(#, 100, 0)", (x, n) -> x.figure(n, 100, 0));
        });
        Checks.holds("Promise 6: the first one of the throws clause", () -> {
            Checks.changesNothing(RICH, INDEX, "no cell, 3 decimals", x -> x.figure(9, 100, 3));
            Checks.changesNothing(RICH, INDEX, "no cell, no multiple", x -> x.figure(-1, 1, 0));
            Checks.changesNothing(RICH, ARGUMENT, "no multiple, to words", x -> x.figure(1, 1, 1));
            Checks.changesNothing(RICH, ARGUMENT, "-1 decimals, over columns", x -> x.figure(0, 100, -1));
        });
    }

    private static void emptyAndNote() {
        Checks.holds("Promise 7: Takes all words of a cell, or its figure, away; returns how many words it had", () -> {
            TablePages x = twelve();
            Checks.due("12", x.empty(0), 12);
            Checks.due("none", x.empty(0), 0);
            Checks.due("its lines", x.lines(0), 0);
            Checks.due("its width", x.most(0), 0);
            x.word(0, 3, 0);
            Checks.due("1", x.empty(0), 1);
            x.figure(0, 100, 0);
            Checks.due("a figure", x.empty(0), 0);
            Checks.refused(x, STATE, "it has no figure then", y -> y.point(0));
        });
        Checks.holds("Promise 7: its note stays", () -> {
            TablePages x = Checks.content(1, 1);
            x.note(Checks.words(x, 0, 0, 3), 2);
            x.empty(0);
            Checks.due("lines", x.notesOn(0), 2);
        });
        Checks.holds("Promise 7: Throws IndexOutOfBoundsException if there is no such cell", () -> {
            noSuch(9, RICH, "empty(#)", TablePages::empty);
            Checks.changesNothing(COLUMN, INDEX, "empty(0)", x -> x.empty(0));
        });
        Checks.holds("Promise 8: lines 0 for none, to 3", () -> {
            TablePages x = Checks.content(1, 1);
            x.cell(0, 0, 1, 1);
            int before = 0;
            for (int lines : new int[] {0, 3, 1, 2, 0, 0}) {
                Checks.due("Returns the lines of the note before", x.note(0, lines), before);
                Checks.due("lines then", x.notesOn(0), lines);
                before = lines;
            }
        });
        Checks.holds("Promise 8: Throws IndexOutOfBoundsException if there is no such cell", () ->
            noSuch(9, RICH, "note(#, 1)", (x, n) -> x.note(n, 1)));
        Checks.holds("Promise 8: Throws IllegalArgumentException if lines is out of range", () ->
            refusedFor(outside(0, 3), RICH, ARGUMENT, "note(1, #)", (x, n) -> x.note(1, n)));
        Checks.holds("Promise 8: Throws IllegalStateException if the cell begins in a head or foot row", () -> {
            for (int lines = 0; lines <= 3; lines += 3) {
                int l = lines;
                Checks.changesNothing(RICH, STATE, "a note of " + l + " in the head", x -> x.note(0, l));
                Checks.changesNothing(RICH, STATE, "a note of " + l + " in the foot", x -> x.note(5, l));
            }
            Checks.due("in the body", rich().note(4, 1), 0);
        });
        Checks.holds("Promise 8: the first one of the throws clause", () -> {
            Checks.changesNothing(RICH, INDEX, "no cell, 4 lines", x -> x.note(9, 4));
            Checks.changesNothing(RICH, ARGUMENT, "4 lines in the head", x -> x.note(0, 4));
            Checks.changesNothing(RICH, ARGUMENT, "-1 lines in the foot", x -> x.note(5, -1));
        });
    }

    private static void at() {
        Checks.holds("Promise 9: Returns the cell of a place, -1 if it is empty", () -> {
            TablePages x = rich();
            int[][] due = {{0, 0, -1, -1}, {1, -1, 2, 8}, {-1, -1, 3, -1}, {4, -1, 6, 7}, {4, -1, -1, 7}, {-1, 5, -1, -1}};
            for (int row = 0; row < 6; row++) {
                for (int column = 0; column < 4; column++) Checks.due("at", x.at(row, column), due[row][column]);
            }
        });
        Checks.holds("Promise 9: Throws IndexOutOfBoundsException if there is no such row or column", () -> {
            noSuch(6, RICH, "at(#, 0)", (x, n) -> x.at(n, 0));
            noSuch(4, RICH, "at(0, #)", (x, n) -> x.at(0, n));
            Checks.changesNothing(COLUMN, INDEX, "at(0, 0)", x -> x.at(0, 0));
        });
    }

    // ---- settings

    private static void paper() {
        Checks.holds("Promise 10: width 1 to 150", () -> {
            TablePages x = Checks.columns(2, 50);
            x.setPaper(1, 30);
            Checks.due("1", x.width(0), 0);
            x.setPaper(2, 30);
            Checks.due("2", x.width(0), 1);
            x.setPaper(150, 30);
            Checks.due("150", x.width(0), 75);
            refusedFor(outside(1, 150), RICH, ARGUMENT, "setPaper(#, 30)", (y, n) -> y.setPaper(n, 30));
        });
        Checks.holds("Promise 10: lines 1 to 100", () -> {
            TablePages x = Checks.sheet(1, 1);
            Checks.due("1", x.used(0), 1);
            for (int i = 0; i < 2; i++) x.row(1, 0, false);
            for (int i = 0; i < 9; i++) Checks.tall(x, x.row(1, 0, false), 0, 1, 11);
            Checks.refused(x, STATE, "102 on pages of 1", y -> y.pages());
            x.setPaper(60, 100);
            Checks.due("102 on pages of 100", x.pages(), 2);
            x.setPaper(60, 99);
            Checks.due("91 and 12", Checks.used(x), "91 12");
            refusedFor(outside(1, 100), RICH, ARGUMENT, "setPaper(60, #)", (y, n) -> y.setPaper(60, n));
        });
        Checks.holds("Promise 10: Throws IllegalArgumentException if width or lines is out of range", () -> {
            Checks.changesNothing(RICH, ARGUMENT, "both", x -> x.setPaper(0, 101));
            Checks.changesNothing(NO_ROOM, ARGUMENT, "a good width alone", x -> x.setPaper(100, 0));
            Checks.changesNothing(NO_ROOM, ARGUMENT, "good lines alone", x -> x.setPaper(151, 100));
            Checks.changesNothing(NONE, ARGUMENT, "on a new object", x -> x.setPaper(0, 1));
        });
    }

    private static void toggles() {
        Checks.holds("Promise 11: Lets notes stand at the end, or on their pages again. Returns whether they stand at the end then", () -> {
            TablePages x = new TablePages();
            for (int i = 0; i < 4; i++) Checks.due("call " + i, x.notesAtEnd(), i % 2 == 0);
        });
        Checks.holds("Promise 12: Lets a column be totalled, or not any more. Returns whether it is then", () -> {
            TablePages x = Checks.content(6, 0);
            for (int column : new int[] {0, 5}) {
                for (int i = 0; i < 4; i++) {
                    Checks.due("call " + i, x.totalled(column), i % 2 == 0);
                    Checks.due("the total", x.used(0), i % 2 == 0 ? 1 : 0);
                }
            }
        });
        Checks.holds("Promise 12: Throws IndexOutOfBoundsException if there is no such column", () -> {
            noSuch(4, RICH, "totalled(#)", TablePages::totalled);
            noSuch(6, SIX, "totalled(#)", TablePages::totalled);
            Checks.changesNothing(NONE, INDEX, "totalled(0)", x -> x.totalled(0));
        });
        Checks.holds("Promise 13: Hides a column, or shows it again. Returns whether it is hidden then", () -> {
            TablePages x = Checks.columns(1, 1, 1, 2, 1, 3, 1, 4, 1, 5, 1, 6);
            for (int column : new int[] {0, 5}) {
                Checks.due("hidden", x.hide(column), true);
                Checks.due("its width", x.width(column), 0);
                Checks.due("shown", x.hide(column), false);
                Checks.due("its width", x.width(column), column + 1);
            }
        });
        Checks.holds("Promise 13: Throws IndexOutOfBoundsException if there is no such column", () -> {
            noSuch(4, RICH, "hide(#)", TablePages::hide);
            noSuch(1, COLUMN, "hide(#)", TablePages::hide);
            Checks.changesNothing(NONE, INDEX, "hide(0)", x -> x.hide(0));
        });
        Checks.holds("Promise 13: Throws IllegalStateException if all would be hidden", () -> {
            Checks.changesNothing(COLUMN, STATE, "the only column", x -> x.hide(0));
            for (int shown = 0; shown < 3; shown++) {
                int s = shown;
                Checks.Make make = () -> {
                    TablePages x = Checks.columns(1, 1, 1, 2, 1, 3);
                    x.hide((s + 1) % 3);
                    x.hide((s + 2) % 3);
                    return x;
                };
                Checks.changesNothing(make, STATE, "the last that is shown, " + s, x -> x.hide(s));
                TablePages y = make.make();
                Checks.due("another is shown again", y.hide((s + 1) % 3), false);
                Checks.due("then it is hidden", y.hide(s), true);
            }
        });
        Checks.holds("Promise 13: the first one of the throws clause", () ->
            Checks.changesNothing(COLUMN, INDEX, "no such column, and all but one are hidden", x -> x.hide(1)));
    }

    /** Body rows with these whole figures in column 0; MIN for none. */
    private static TablePages sortable(int... wholes) {
        TablePages x = Checks.content(2, wholes.length);
        for (int i = 0; i < wholes.length; i++) {
            if (wholes[i] != MIN) Checks.figure(x, i, 0, 100 * wholes[i], 0);
        }
        return x;
    }

    /** The numbers of the body rows in their order, told from the border of the row above. */
    private static String order(TablePages x, int rows) {
        for (int row = 0; row < rows; row++) x.border(1, row, 2, 0);
        StringBuilder s = new StringBuilder();
        int row = -1;
        for (int i = 0; i < rows; i++) {
            row = rowBelow(x, row, rows);
            s.append(i > 0 ? " " : "").append(row);
        }
        return s.toString();
    }

    private static int rowBelow(TablePages x, int above, int rows) {
        if (above >= 0) x.border(1, above, 2, 5);
        else x.border(3, 0, 0, 5);
        int below = -1;
        for (int row = 0; row < rows; row++) below = x.edge(row, 0, 0) > 50 ? row : below;
        if (above >= 0) x.border(1, above, 2, 0);
        else x.border(3, 0, 0, 0);
        return below;
    }

    private static void sort() {
        Checks.holds("Promise 14: by rising or falling ones", () -> {
            TablePages x = sortable(3, -1, 10, 0);
            Checks.due("rising", x.sort(0, false), 4);
            Checks.due("rising", order(x, 4), "1 3 0 2");
            Checks.due("falling", x.sort(0, true), 4);
            Checks.due("falling", order(x, 4), "2 0 3 1");
        });
        Checks.holds("Promise 14: rows without a figure there behind all", () -> {
            for (int falling = 0; falling < 2; falling++) {
                TablePages x = sortable(MIN, -5, MIN, -10000, MIN, 10000);
                Checks.words(x, 0, 0, 3);
                x.cell(2, 0, 1, 1);
                x.sort(0, falling == 1);
                Checks.due("words, an empty cell and no cell", order(x, 6), falling == 1 ? "5 1 3 0 2 4" : "3 1 5 0 2 4");
            }
        });
        Checks.holds("Promise 14: those with the same as they were", () -> {
            TablePages x = sortable(2, 1, 2, 1, 2);
            Checks.due("rising", x.sort(0, false), 4);
            Checks.due("rising", order(x, 5), "1 3 0 2 4");
            Checks.due("falling", x.sort(0, true), 5);
            Checks.due("falling", order(x, 5), "0 2 4 1 3");
            TablePages y = Checks.content(1, 2);
            Checks.figure(y, 0, 0, 100, 2);
            Checks.figure(y, 1, 0, 100, 0);
            Checks.due("1.00 and 1 are the same", y.sort(0, false) + y.sort(0, true), 0);
        });
        Checks.holds("Promise 14: Returns how many rows stand at another place than before", () -> {
            Checks.due("no rows", Checks.content(1, 0).sort(0, false), 0);
            Checks.due("one row", sortable(5).sort(0, false), 0);
            Checks.due("as they are", sortable(1, 2, 3).sort(0, false), 0);
            Checks.due("the middle stays", sortable(3, 2, 1).sort(0, false), 2);
            Checks.due("all three", sortable(3, 1, 2).sort(0, false), 3);
            TablePages all = Checks.content(1, 24);
            for (int i = 0; i < 24; i++) Checks.figure(all, i, 0, 100 * i, 0);
            Checks.due("24 rows turned round", all.sort(0, true), 24);
            Checks.due("and again", all.sort(0, true), 0);
        });
        Checks.holds("Promise 14: Sorts the body rows", () -> {
            TablePages x = Checks.content(1, 0);
            int[] hundredths = {200, 100, 400, 300};
            for (int i = 0; i < 4; i++) Checks.figure(x, x.row(i / 2 * 2, 0, false), 0, hundredths[i], 0);
            x.border(1, 0, 2, 3);
            x.border(1, 2, 2, 4);
            Checks.due("heads and feet are not sorted", x.sort(0, false), 0);
            Checks.due("the second head", x.edge(1, 0, 0), 32);
            Checks.due("the second foot", x.edge(3, 0, 0), 42);
        });
        Checks.holds("Promise 14: Throws IndexOutOfBoundsException if there is no such column", () -> {
            noSuch(2, () -> sortable(2, 1), "sort(#, false)", (x, n) -> x.sort(n, false));
            Checks.changesNothing(NONE, INDEX, "sort(0, true)", x -> x.sort(0, true));
        });
        Checks.holds("Promise 14: Throws IllegalStateException if a cell of the body spans several rows", () -> {
            Checks.Make make = () -> {
                TablePages x = sortable(2, 1, 3);
                x.cell(1, 1, 2, 1);
                return x;
            };
            Checks.changesNothing(make, STATE, "sort(0, false)", x -> x.sort(0, false));
            Checks.changesNothing(make, STATE, "sort(1, true)", x -> x.sort(1, true));
            for (int rows = 2; rows <= 4; rows++) {
                TablePages x = Checks.content(1, 5);
                x.cell(1, 0, rows, 1);
                Checks.refused(x, STATE, "the first cell spans " + rows + " rows", z -> z.sort(0, false));
            }
            TablePages y = sortable(2, 1);
            y.row(0, 0, false);
            y.row(0, 0, false);
            y.cell(2, 0, 2, 1);
            y.row(2, 0, false);
            y.row(2, 0, false);
            y.cell(4, 0, 2, 1);
            y.cell(0, 1, 1, 1);
            Checks.due("of the head and the foot it may", y.sort(0, false), 2);
        });
        Checks.holds("Promise 14: also one that is out", () -> {
            Checks.Make make = () -> {
                TablePages x = sortable(2, 1, 3);
                x.cell(0, 1, 3, 1);
                x.hide(1);
                return x;
            };
            Checks.changesNothing(make, STATE, "sort(0, false)", x -> x.sort(0, false));
        });
        Checks.holds("Promise 14: the first one of the throws clause", () ->
            Checks.changesNothing(RICH, INDEX, "no column, and rows are spanned", x -> x.sort(4, true)));
    }

    // ---- widths and heights

    private static void widths() {
        Checks.holds("Promise 15: Returns the least width of a column, 0 if it is hidden", () -> {
            TablePages x = Checks.content(2, 1);
            Checks.words(x, 0, 0, 5, 5);
            Checks.due("shown", x.least(0), 5);
            x.hide(0);
            Checks.due("hidden", x.least(0), 0);
        });
        Checks.holds("Promise 16: Returns the most width of a column, 0 if it is hidden", () -> {
            TablePages x = Checks.content(2, 1);
            Checks.words(x, 0, 0, 5, 5);
            Checks.due("shown", x.most(0), 11);
            x.hide(0);
            Checks.due("hidden", x.most(0), 0);
        });
        Checks.holds("Promise 17: Returns the width of a column, 0 if it is hidden", () -> {
            TablePages x = Checks.columns(0, 1, 1, 9, 2, 50);
            Checks.body(x, 1);
            Checks.words(x, 0, 0, 5, 5);
            Checks.due("shown", Checks.widths(x, 3), "11 9 29");
            x.hide(1);
            Checks.due("the fixed one is hidden", Checks.widths(x, 3), "11 0 29");
            x.hide(2);
            Checks.due("the share, too", Checks.widths(x, 3), "11 0 0");
            x.hide(1);
            x.hide(0);
            Checks.due("and the one of content", Checks.widths(x, 3), "0 9 0");
        });
        Checks.holds("Promises 15 to 17: Throws IndexOutOfBoundsException if there is no such column", () -> {
            noSuch(4, RICH, "least(#)", TablePages::least);
            noSuch(4, RICH, "most(#)", TablePages::most);
            noSuch(4, RICH, "width(#)", TablePages::width);
            noSuch(6, SIX, "least(#)", TablePages::least);
            noSuch(6, SIX, "most(#)", TablePages::most);
            noSuch(6, SIX, "width(#)", TablePages::width);
            Checks.changesNothing(NONE, INDEX, "least(0)", x -> x.least(0));
            Checks.changesNothing(NONE, INDEX, "most(0)", x -> x.most(0));
            Checks.changesNothing(NONE, INDEX, "width(0)", x -> x.width(0));
        });
        Checks.holds("Promise 18: Returns by how much the table is over", () -> {
            TablePages x = Checks.columns(1, 10);
            for (int width = 8; width <= 11; width++) {
                x.setPaper(width, 30);
                Checks.due("10 on " + width, x.over(), Math.max(0, 10 - width));
            }
        });
    }

    private static void points() {
        Checks.holds("Promise 19: how far the point of a figure, or where it would be, is from the left side of its column", () -> {
            TablePages x = Checks.columns(1, 12);
            Checks.body(x, 3);
            Checks.figure(x, 0, 0, 1234, 2);
            Checks.figure(x, 1, 0, 10000, 1);
            Checks.figure(x, 2, 0, -700, 0);
            for (int i = 0; i < 3; i++) Checks.due("12 less .34, of figure " + i, x.point(i), 9);
            x.note(0, 1);
            for (int i = 0; i < 3; i++) Checks.due("less a note", x.point(i), 8);
        });
        Checks.holds("Promise 20: as the point, less its left part", () -> {
            TablePages x = Checks.columns(1, 12);
            Checks.body(x, 3);
            Checks.figure(x, 0, 0, 1234, 2);
            Checks.figure(x, 1, 0, 10000, 1);
            Checks.figure(x, 2, 0, -700, 0);
            for (int i = 0; i < 3; i++) Checks.due("figure " + i, x.begins(i), 9 - 2 - i % 2);
            x.figure(2, -1000000, 2);
            Checks.due("-10000.00", x.begins(2), 3);
        });
        Checks.holds("Promises 19 and 20: in a column that is just as wide as its parts", () -> {
            TablePages x = Checks.content(1, 1);
            Checks.figure(x, 0, 0, -1000000, 2);
            Checks.due("begins", x.begins(0), 0);
            Checks.due("point", x.point(0), 6);
            Checks.due("width", x.width(0), 9);
        });
        Checks.holds("Promises 19 and 20: Throws IndexOutOfBoundsException if there is no such cell", () -> {
            noSuch(9, RICH, "point(#)", TablePages::point);
            noSuch(9, RICH, "begins(#)", TablePages::begins);
        });
        Checks.holds("Promises 19 and 20: Throws IllegalStateException if it has no figure", () -> {
            for (int cell : new int[] {0, 1, 4, 5, 6}) {
                Checks.changesNothing(RICH, STATE, "point(" + cell + ")", x -> x.point(cell));
                Checks.changesNothing(RICH, STATE, "begins(" + cell + ")", x -> x.begins(cell));
            }
        });
        Checks.holds("Promises 19 and 20: or is out", () -> {
            Checks.changesNothing(RICH, STATE, "point(8)", x -> x.point(8));
            Checks.changesNothing(RICH, STATE, "begins(8)", x -> x.begins(8));
            Checks.changesNothing(RICH, STATE, "words that are out", x -> x.begins(7));
            TablePages x = rich();
            x.hide(3);
            Checks.due("shown again", x.point(8) - x.begins(8), 1);
        });
    }

    private static void heights() {
        Checks.holds("Promise 21: Returns the lines of a cell, 0 if it is out", () -> {
            TablePages x = rich();
            int[] due = {1, 1, 1, 1, 3, 1, 0, 0, 0};
            x.setPaper(24, 9);
            for (int cell = 0; cell < 9; cell++) Checks.due("cell " + cell, x.lines(cell), due[cell]);
        });
        Checks.holds("Promise 21: Throws IndexOutOfBoundsException if there is no such cell", () -> {
            noSuch(9, RICH, "lines(#)", TablePages::lines);
            Checks.changesNothing(NONE, INDEX, "lines(0)", x -> x.lines(0));
        });
        Checks.holds("Promises 22 and 23: Throws IndexOutOfBoundsException if there is no such row", () -> {
            noSuch(6, RICH, "height(#)", TablePages::height);
            noSuch(6, RICH, "heightByCells(#)", TablePages::heightByCells);
            Checks.changesNothing(COLUMN, INDEX, "height(0)", x -> x.height(0));
            Checks.changesNothing(COLUMN, INDEX, "heightByCells(0)", x -> x.heightByCells(0));
            noSuch(24, withFull(1, 24), "height(#)", TablePages::height);
        });
        Checks.holds("Promise 23: Returns the same cell by cell from nothing", () -> {
            TablePages x = rich();
            for (int width = 1; width < 60; width += 7) {
                x.setPaper(width, 9);
                for (int row = 0; row < 6; row++) Checks.due("row " + row, x.heightByCells(row), x.height(row));
            }
        });
        Checks.holds("Promise 24: Returns the height of the table", () -> {
            TablePages x = rich();
            x.setPaper(24, 9);
            Checks.due("1, 1, and 3 over two rows", x.tableHeight(), 5);
            x.empty(4);
            Checks.due("4 rows of 1", x.tableHeight(), 4);
        });
        Checks.holds("Promise 25: Throws IllegalStateException if more than 3 columns of content are not hidden", () -> {
            for (int count = 0; count <= 6; count++) {
                int c = count;
                Checks.Make make = () -> {
                    TablePages x = new TablePages();
                    for (int i = 0; i < 6; i++) x.column(i < c ? 0 : 1 + i % 2, 5);
                    return Checks.body(x, 2);
                };
                if (c > 3) Checks.changesNothing(make, STATE, c + " of content", x -> x.leastHeight());
                else Checks.due(c + " of content", make.make().leastHeight(), 2);
                if (c > 3) {
                    TablePages x = make.make();
                    for (int i = 0; i < c - 4; i++) x.hide(i);
                    Checks.refused(x, STATE, "4 that are not hidden", y -> y.leastHeight());
                    x.hide(3);
                    Checks.due("3 that are not hidden", x.leastHeight(), 2);
                }
            }
        });
    }

    // ---- borders

    private static void borders() {
        Checks.holds("Promise 26: kind 0 of a cell, 1 of a row, 2 of a column, 3 of the table", () -> {
            for (int kind = 0; kind < 4; kind++) {
                TablePages x = Checks.content(1, 1);
                x.cell(0, 0, 1, 1);
                x.border(kind, 0, kind == 2 ? 3 : 0, 4);
                Checks.due("who wins", x.edge(0, 0, kind == 2 ? 3 : 0), 41 + kind);
            }
            refusedFor(outside(0, 3), RICH, ARGUMENT, "border(#, 0, 0, 0)", (x, n) -> x.border(n, 0, 0, 0));
        });
        Checks.holds("Promise 26: number the cell, row or column", () -> {
            noSuch(9, RICH, "border(0, #, 0, 5)", (x, n) -> x.border(0, n, 0, 5));
            noSuch(6, RICH, "border(1, #, 0, 5)", (x, n) -> x.border(1, n, 0, 5));
            noSuch(4, RICH, "border(2, #, 1, 5)", (x, n) -> x.border(2, n, 1, 5));
            Checks.due("the last cell", rich().border(0, 8, 0, 5), 0);
            Checks.due("the last row", rich().border(1, 5, 0, 5), 0);
            Checks.due("the last column, which is hidden", rich().border(2, 3, 1, 5), 0);
            Checks.changesNothing(NONE, INDEX, "no cell", x -> x.border(0, 0, 0, 0));
            Checks.changesNothing(NONE, INDEX, "no row", x -> x.border(1, 0, 0, 0));
            Checks.changesNothing(NONE, INDEX, "no column", x -> x.border(2, 0, 1, 0));
        });
        Checks.holds("Promise 26: for the table it counts for nothing", () -> {
            TablePages x = new TablePages();
            int before = 0;
            for (int number : new int[] {-1, 0, 100, MIN, MAX}) {
                Checks.due("number " + number, x.border(3, number, 0, before + 1), before);
                before++;
            }
        });
        Checks.holds("Promise 26: side 0 top, 1 right, 2 bottom, 3 left", () -> {
            for (int side = 0; side < 4; side++) {
                int s = side;
                Checks.due("side " + s, rich().border(0, 0, s, 5), 0);
            }
            refusedFor(outside(0, 3), RICH, ARGUMENT, "border(0, 0, #, 0)", (x, n) -> x.border(0, 0, n, 0));
        });
        Checks.holds("Promise 26: of a row 0 or 2", () -> {
            refusedFor(new int[] {-1, 1, 3, 4, MIN, MAX, -2}, RICH, ARGUMENT, "border(1, 0, #, 0)",
                (x, n) -> x.border(1, 0, n, 0));
            TablePages x = rich();
            Checks.due("top", x.border(1, 2, 0, 5), 4);
            Checks.due("bottom", x.border(1, 2, 2, 5), 0);
        });
        Checks.holds("Promise 26: of a column 1 or 3", () -> {
            refusedFor(new int[] {-1, 0, 2, 4, 5, MIN, MAX}, RICH, ARGUMENT, "border(2, 0, #, 0)",
                (x, n) -> x.border(2, 0, n, 0));
            TablePages x = rich();
            Checks.due("right", x.border(2, 1, 1, 5), 0);
            Checks.due("left", x.border(2, 1, 3, 5), 2);
        });
        Checks.holds("Promise 26: side for the table counts for nothing", () -> {
            TablePages x = new TablePages();
            int before = 0;
            for (int side : new int[] {-1, 0, 4, MIN, MAX}) {
                Checks.due("side " + side, x.border(3, 0, side, before + 1), before);
                before++;
            }
        });
        Checks.holds("Promise 26: weight 0 to 5; Returns the weight before", () -> {
            int[][] borders = {{0, 0, 1}, {1, 0, 2}, {2, 0, 3}, {3, 0, 0}};
            for (int[] b : borders) {
                TablePages x = rich();
                x.border(b[0], b[1], b[2], 0);
                int before = 0;
                for (int weight : new int[] {5, 0, 1, 4, 4, 5}) {
                    Checks.due("kind " + b[0], x.border(b[0], b[1], b[2], weight), before);
                    before = weight;
                }
                refusedFor(outside(0, 5), RICH, ARGUMENT, "border(" + b[0] + ", 0, .., #)",
                    (y, n) -> y.border(b[0], b[1], b[2], n));
            }
        });
        Checks.holds("Promise 26: the first one of the throws clause", () -> {
            Checks.changesNothing(RICH, ARGUMENT, "weight 6 of no cell", x -> x.border(0, 9, 0, 6));
            Checks.changesNothing(RICH, ARGUMENT, "side 1 of no row", x -> x.border(1, 6, 1, 0));
            Checks.changesNothing(RICH, ARGUMENT, "side 0 of no column", x -> x.border(2, 4, 0, 0));
            Checks.changesNothing(RICH, ARGUMENT, "kind 4 of no number", x -> x.border(4, -1, 0, 0));
        });
    }

    private static void edge() {
        Checks.holds("Promise 27: side 0 top, 1 right, 2 bottom, 3 left", () -> {
            TablePages x = Checks.content(1, 1);
            x.cell(0, 0, 1, 1);
            for (int side = 0; side < 4; side++) x.border(0, 0, side, side + 1);
            for (int side = 0; side < 4; side++) Checks.due("side " + side, x.edge(0, 0, side), 10 * side + 11);
        });
        Checks.holds("Promise 27: Returns 10 times the weight, and 1 for a cell, 2 a row, 3 a column, 4 the table; 0 for nobody", () -> {
            for (int weight = 0; weight <= 5; weight++) {
                TablePages x = Checks.content(2, 1);
                x.cell(0, 0, 1, 1);
                x.border(3, 0, 0, weight);
                Checks.due("the table", x.edge(0, 1, 1), weight == 0 ? 0 : 10 * weight + 4);
                x.border(2, 1, 1, weight);
                Checks.due("a column", x.edge(0, 1, 1), weight == 0 ? 0 : 10 * weight + 3);
                x.border(1, 0, 0, weight);
                Checks.due("a row", x.edge(0, 1, 0), weight == 0 ? 0 : 10 * weight + 2);
                x.border(0, 0, 0, weight);
                Checks.due("a cell", x.edge(0, 0, 0), weight == 0 ? 0 : 10 * weight + 1);
            }
        });
        Checks.holds("Promise 27: Throws IndexOutOfBoundsException if there is no such row or column", () -> {
            noSuch(6, RICH, "edge(#, 0, 0)", (x, n) -> x.edge(n, 0, 0));
            noSuch(4, RICH, "edge(0, #, 0)", (x, n) -> x.edge(0, n, 0));
            Checks.changesNothing(COLUMN, INDEX, "edge(0, 0, 0)", x -> x.edge(0, 0, 0));
        });
        Checks.holds("Promise 27: Throws IllegalArgumentException if side is out of range", () ->
            refusedFor(outside(0, 3), RICH, ARGUMENT, "edge(1, 0, #)", (x, n) -> x.edge(1, 0, n)));
        Checks.holds("Promise 27: Throws IllegalStateException if the column is hidden", () -> {
            for (int side = 0; side < 4; side++) {
                int s = side;
                Checks.changesNothing(RICH, STATE, "edge(3, 3, " + s + ")", x -> x.edge(3, 3, s));
            }
        });
        Checks.holds("Promise 27: the first one of the throws clause", () -> {
            Checks.changesNothing(RICH, INDEX, "no row, a hidden column", x -> x.edge(6, 3, 0));
            Checks.changesNothing(RICH, INDEX, "no column, side 4", x -> x.edge(0, 4, 4));
            Checks.changesNothing(RICH, INDEX, "no row, side 4", x -> x.edge(6, 0, 4));
            Checks.changesNothing(RICH, INDEX, "row -1, side -1", x -> x.edge(-1, 0, -1));
            Checks.changesNothing(RICH, ARGUMENT, "side 4 of a hidden column", x -> x.edge(3, 3, 4));
        });
    }

    /** What changes something, in RICH; the second of two is answered by what the first one left. */
    private static void changes() {
        Checks.holds("what was asked ahead of a change does not count behind it", () -> {
            Checks.seen(RICH, "row of the head", x -> x.row(0, 0, false));
            Checks.seen(RICH, "row of the body", x -> x.row(1, 3, true));
            Checks.seen(RICH, "row of the foot", x -> x.row(2, 0, false));
            Checks.seen(RICH, "cell", x -> x.word(x.cell(2, 0, 1, 1), 20, 0));
            Checks.seen(RICH, "word", x -> x.word(1, 20, 0));
            Checks.seen(RICH, "word in a cell over rows", x -> x.word(4, 20, 0));
            Checks.seen(RICH, "figure", x -> x.figure(2, 1000000, 0));
            Checks.seen(RICH, "empty of words", x -> x.empty(0));
            Checks.seen(RICH, "empty of a figure", x -> x.empty(2));
            Checks.seen(RICH, "note", x -> x.note(4, 3));
            Checks.seen(RICH, "note away", x -> x.note(1, 0));
            Checks.seen(RICH, "setPaper", x -> x.setPaper(26, 8));
            Checks.seen(RICH, "notesAtEnd", TablePages::notesAtEnd);
            Checks.seen(RICH, "totalled", x -> x.totalled(2));
            Checks.seen(RICH, "hide", x -> x.hide(2));
            Checks.seen(RICH, "show", x -> x.hide(3));
            Checks.seen(RICH, "border", x -> x.border(3, 0, 0, 5));
            Checks.seen(SIX, "column", x -> x.hide(0));
            Checks.seen(COLUMN, "column of content", x -> x.column(0, 1));
            Checks.seen(COLUMN, "fixed column", x -> x.column(1, 20));
            Checks.seen(COLUMN, "share", x -> x.column(2, 20));
            Checks.seen(NONE, "first column", x -> x.column(2, 20));
            Checks.seen(() -> {
                TablePages x = sortable(2, 1, 3);
                x.setPaper(9, 3);
                x.totalled(0);
                return x;
            }, "sort", x -> x.sort(0, true));
        });
    }

    // ---- pages

    private static void pages() {
        Checks.holds("Promise 28: Returns how many pages there are, at least 1", () -> {
            Checks.due("a new object", new TablePages().pages(), 1);
            Checks.due("columns alone", Checks.content(6, 0).pages(), 1);
            TablePages x = Checks.content(1, 0);
            x.row(0, 0, false);
            Checks.due("a head alone", x.pages(), 1);
            for (int rows = 1; rows <= 24; rows++) {
                Checks.due(rows + " rows", Checks.body(Checks.columns(0, 1), rows).pages(), 1);
            }
            TablePages y = Checks.sheet(3);
            for (int i = 0; i < 24; i++) y.row(1, 0, false);
            Checks.due("24 rows: 3, and 10 times 2, and 1", y.pages(), 12);
        });
        Checks.holds("Promise 28: Throws IllegalStateException if the table cannot be set", () -> {
            Checks.changesNothing(NO_ROOM, STATE, "pages()", x -> x.pages());
            Checks.Make late = () -> Checks.sheet(1, 1, 1);
            Checks.changesNothing(late, STATE, "no room on the second page", x -> x.pages());
            TablePages x = late.make();
            x.setPaper(60, 2);
            Checks.due("it can be set then", x.pages(), 1);
        });
    }

    private static void pageOf() {
        Checks.holds("Promise 29: Returns the page on which a body row begins, from 0", () -> {
            TablePages x = Checks.sheet(4, -2, -7, 1, 3);
            int[] due = {0, 0, 2, 3};
            Checks.due("row 1", Checks.spread(x, 1), "2 3 2 0");
            for (int row = 0; row < 4; row++) Checks.due("row " + row, x.pageOf(row), due[row]);
            TablePages y = sortable(3, 2, 1);
            y.setPaper(60, 2);
            for (int row = 0; row < 3; row++) Checks.due("row " + row, y.pageOf(row), row / 2);
            y.sort(0, false);
            for (int row = 0; row < 3; row++) Checks.due("sorted, row " + row, y.pageOf(row), row == 0 ? 1 : 0);
            Checks.due("carried out of page 0", y.carried(0, 0), 300);
            Checks.due("cell by cell", y.carriedByCells(0, 0), 300);
        });
        Checks.holds("Promise 29: Throws IndexOutOfBoundsException if there is no such row", () -> {
            noSuch(6, RICH, "pageOf(#)", TablePages::pageOf);
            noSuch(6, NO_ROOM, "pageOf(#) without room", TablePages::pageOf);
        });
        Checks.holds("Promise 29: Throws IllegalArgumentException if it is no body row", () -> {
            refusedFor(new int[] {0, 5}, RICH, ARGUMENT, "pageOf(#)", TablePages::pageOf);
            refusedFor(new int[] {0, 5}, NO_ROOM, ARGUMENT, "pageOf(#) without room", TablePages::pageOf);
        });
        Checks.holds("Promise 29: Throws IllegalStateException if the table cannot be set", () ->
            refusedFor(new int[] {1, 2, 3, 4}, NO_ROOM, STATE, "pageOf(#)", TablePages::pageOf));
    }

    private static void linesOn() {
        Checks.holds("Promise 30: Returns how many lines of a body row are on a page", () -> {
            TablePages x = Checks.sheet(4, -2, -7, 1, 3);
            String[] due = {"2 0 0 0", "2 3 2 0", "0 0 1 0", "0 0 0 3"};
            for (int row = 0; row < 4; row++) {
                Checks.due("row " + row, Checks.spread(x, row), due[row]);
                Checks.due("row " + row + " behind the last page", x.linesOn(row, 4), 0);
                Checks.due("row " + row + " far behind", x.linesOn(row, MAX), 0);
            }
        });
        Checks.holds("Promise 30: Throws IndexOutOfBoundsException if there is no such row", () -> {
            noSuch(6, RICH, "linesOn(#, 0)", (x, n) -> x.linesOn(n, 0));
            noSuch(6, RICH, "linesOn(#, -1)", (x, n) -> x.linesOn(n, -1));
            noSuch(6, NO_ROOM, "linesOn(#, 0) without room", (x, n) -> x.linesOn(n, 0));
        });
        Checks.holds("Promise 30: Throws IllegalArgumentException if it is no body row", () -> {
            refusedFor(new int[] {0, 5}, RICH, ARGUMENT, "linesOn(#, 0)", (x, n) -> x.linesOn(n, 0));
            refusedFor(new int[] {0, 5}, NO_ROOM, ARGUMENT, "linesOn(#, 0) without room", (x, n) -> x.linesOn(n, 0));
        });
        Checks.holds("Promise 30: or page is below 0", () -> {
            refusedFor(new int[] {-1, MIN}, RICH, ARGUMENT, "linesOn(1, #)", (x, n) -> x.linesOn(1, n));
            refusedFor(new int[] {-1, MIN}, NO_ROOM, ARGUMENT, "linesOn(1, #) without room", (x, n) -> x.linesOn(1, n));
        });
        Checks.holds("Promise 30: Throws IllegalStateException if the table cannot be set", () ->
            refusedFor(new int[] {0, 1, MAX}, NO_ROOM, STATE, "linesOn(1, #)", (x, n) -> x.linesOn(1, n)));
    }

    private static void shown() {
        Checks.holds("Promise 31: Returns how many lines of a cell of the body are on a page", () -> {
            TablePages x = Checks.sheet(4, -2, -7, 1);
            Checks.due("2 lines", Checks.shown(x, 0), "2 0 0");
            Checks.due("7 lines", Checks.shown(x, 1), "2 3 2");
            int c = x.cell(1, 1, 1, 1);
            for (int i = 0; i < 4; i++) x.word(c, 20, 0);
            x.setPaper(30, 4);
            Checks.due("4 lines of a row of 7", Checks.shown(x, c), "2 2 0");
            Checks.due("behind the last page", x.shown(c, 3), 0);
            Checks.due("far behind", x.shown(c, MAX), 0);
            Checks.due("an empty cell", x.shown(x.cell(2, 1, 1, 1), 2), 0);
            int first = x.cell(0, 1, 1, 1);
            x.word(first, 20, 0);
            Checks.due("1 line of a row of 2", Checks.shown(x, first), "1 0 0");
            TablePages y = Checks.sheet(4, -7);
            int short2 = y.cell(0, 1, 1, 1);
            for (int i = 0; i < 5; i++) y.word(short2, 20, 0);
            y.setPaper(30, 4);
            Checks.due("5 lines of a row of 7", Checks.shown(y, short2), "4 1");
            x.hide(1);
            Checks.due("one that is out", Checks.shown(x, c), "0 0 0");
        });
        Checks.holds("Promise 31: Throws IndexOutOfBoundsException if there is no such cell", () -> {
            noSuch(9, RICH, "shown(#, 0)", (x, n) -> x.shown(n, 0));
            noSuch(9, RICH, "shown(#, -1)", (x, n) -> x.shown(n, -1));
            noSuch(9, NO_ROOM, "shown(#, 0) without room", (x, n) -> x.shown(n, 0));
        });
        Checks.holds("Promise 31: Throws IllegalArgumentException if it is no cell of the body", () -> {
            refusedFor(new int[] {0, 5}, RICH, ARGUMENT, "shown(#, 0)", (x, n) -> x.shown(n, 0));
            refusedFor(new int[] {0, 5}, NO_ROOM, ARGUMENT, "shown(#, 0) without room", (x, n) -> x.shown(n, 0));
        });
        Checks.holds("Promise 31: or page is below 0", () -> {
            refusedFor(new int[] {-1, MIN}, RICH, ARGUMENT, "shown(1, #)", (x, n) -> x.shown(1, n));
            refusedFor(new int[] {-1, MIN}, NO_ROOM, ARGUMENT, "shown(1, #) without room", (x, n) -> x.shown(1, n));
        });
        Checks.holds("Promise 31: Throws IllegalStateException if the table cannot be set", () -> {
            refusedFor(new int[] {0, 1, MAX}, NO_ROOM, STATE, "shown(1, #)", (x, n) -> x.shown(1, n));
            Checks.changesNothing(NO_ROOM, STATE, "one that is out", x -> x.shown(7, 0));
        });
    }

    private static void usedAndNotesOn() {
        Checks.holds("Promise 32: Returns how many lines of a page are used, heads, feet, continued and carried lines, and notes "
            + "included", () -> {
            TablePages x = Checks.sheet(8, 1, 1, 1, 1);
            x.row(0, 0, false);
            x.row(2, 0, false);
            x.note(x.cell(0, 1, 1, 1), 2);
            x.totalled(1);
            Checks.due("head, foot, 3 rows, 2 of notes, out; head, foot, continued, in, row, total", Checks.used(x), "8 6");
            x.notesAtEnd();
            Checks.due("4 rows, total and no notes; notes", Checks.used(x), "8 6");
            Checks.due("notes", Checks.notes(x), "0 2");
            x.note(0, 0);
            Checks.due("without", Checks.used(x), "7");
        });
        Checks.holds("Promise 33: Returns how many lines of notes are on a page, also of those at the end", () -> {
            TablePages x = Checks.sheet(3, 1, 1, 1);
            for (int i = 0; i < 3; i++) x.note(x.cell(i, 1, 1, 1), 1);
            Checks.due("on their pages", Checks.notes(x), "1 1 1");
            x.notesAtEnd();
            Checks.due("at the end", Checks.notes(x), "0 2 1");
        });
        Checks.holds("Promises 32 and 33: Throws IllegalStateException if the table cannot be set", () -> {
            refusedFor(new int[] {0, 1, -1, MIN, MAX}, NO_ROOM, STATE, "used(#)", TablePages::used);
            refusedFor(new int[] {0, 1, -1, MIN, MAX}, NO_ROOM, STATE, "notesOn(#)", TablePages::notesOn);
        });
        Checks.holds("Promises 32 and 33: Throws IllegalArgumentException if there is no such page", () -> {
            for (int lines = 0; lines < 9; lines += 4) {
                int count = lines;
                Checks.Make make = () -> {
                    TablePages x = Checks.sheet(3);
                    for (int i = 0; i < count; i++) x.row(1, 0, false);
                    return x;
                };
                int pages = count == 0 ? 1 : count == 4 ? 2 : 4;
                Checks.due(count + " rows", make.make().pages(), pages);
                refusedFor(outside(0, pages - 1), make, ARGUMENT, "used(#) of " + pages, TablePages::used);
                refusedFor(outside(0, pages - 1), make, ARGUMENT, "notesOn(#) of " + pages, TablePages::notesOn);
                Checks.due("the last page has lines", make.make().used(pages - 1) > 0, count > 0);
            }
        });
    }

    private static void look() {
        Checks.holds("Promise 34: how many pages show other things than when this was asked the last time", () -> {
            TablePages x = Checks.sheet(3, 1, 1, 1, 1, 1);
            x.look();
            Checks.due("nothing is other", x.look(), 0);
            x.cell(4, 0, 1, 1);
            x.word(0, 9, 0);
            Checks.due("as many lines", x.look(), 0);
            x.note(0, 1);
            Checks.due("row 4 and its note go to a third page", x.look(), 2);
        });
        Checks.holds("Promise 34: or are more or fewer", () -> {
            TablePages x = Checks.sheet(3, 1, 1, 1);
            x.look();
            for (int i = 0; i < 2; i++) x.row(1, 0, false);
            Checks.due("one more", x.look(), 1);
            for (int i = 0; i < 4; i++) x.row(1, 0, false);
            Checks.due("two more", x.look(), 2);
            x.setPaper(60, 4);
            Checks.due("4, 3 and 2: all other, and one fewer", x.look(), 4);
            x.setPaper(60, 100);
            Checks.due("one, and two fewer", x.look(), 3);
        });
        Checks.holds("Promise 34: for each page which lines of which items are on it", () -> {
            TablePages x = Checks.sheet(3, 1, -4, -1);
            Checks.due("1 and 2; 2; row 2", x.look(), 3);
            Checks.due("row 1", Checks.spread(x, 1), "2 2 0");
            x.word(0, 9, 0);
            Checks.due("row 1 of 5 lines: 2, 2 and 1, then row 2", x.look(), 1);
            TablePages y = sortable(1, 2, 3, 4);
            y.setPaper(60, 3);
            y.look();
            y.figure(0, 500, 0);
            y.sort(0, false);
            Checks.due("other rows on both pages", y.look(), 2);
            y.figure(0, 50, 2);
            Checks.due("other figures, without totals", y.look(), 0);
        });
        Checks.holds("Promise 34: which lines of which items: other lines of the same item", () -> {
            TablePages x = Checks.sheet(3, -6, 1);
            Checks.due("3; 2; 1 and 1", Checks.spread(x, 0), "3 2 1");
            x.look();
            x.note(0, 1);
            Checks.due("2; 2; 2; row 1", Checks.spread(x, 0), "2 2 2 0");
            Checks.due("page 1 has lines 2 and 3 now, not 3 and 4", x.look(), 4);
        });
        Checks.holds("Promise 34: how many lines of notes", () -> {
            TablePages x = Checks.sheet(6, 1, 1);
            x.cell(0, 1, 1, 1);
            x.cell(1, 1, 1, 1);
            x.look();
            x.note(0, 2);
            Checks.due("2 more", x.look(), 1);
            x.note(0, 1);
            x.note(1, 1);
            Checks.due("2 of another", x.look(), 0);
            x.note(1, 0);
            Checks.due("1 fewer", x.look(), 1);
        });
        Checks.holds("Promise 34: and what is carried into it and out of it for each totalled column (out of the last one, too)", () -> {
            TablePages x = Checks.content(2, 4);
            x.setPaper(60, 4);
            x.totalled(1);
            for (int i = 0; i < 4; i++) Checks.figure(x, i, 1, 100, 0);
            for (int i = 0; i < 4; i++) Checks.figure(x, i, 0, 100, 0);
            Checks.due("3 rows; row 3 and the total", x.look(), 2);
            x.figure(3, 200, 0);
            Checks.due("out of the last one", x.look(), 1);
            x.figure(0, 200, 0);
            x.figure(3, 100, 0);
            Checks.due("out of page 0, into page 1", x.look(), 2);
            x.figure(0, 100, 0);
            x.figure(1, 200, 0);
            Checks.due("the same sum", x.look(), 0);
            x.figure(4, 900, 0);
            x.figure(7, 900, 0);
            Checks.due("a column that is not totalled", x.look(), 0);
            for (int column = 0; column < 6; column++) {
                TablePages y = Checks.content(6, 2);
                int c = Checks.figure(y, 0, column, 100, 0);
                y.totalled(column);
                y.look();
                y.figure(c, 200, 0);
                Checks.due("each column that is totalled, here " + column, y.look(), 1);
            }
        });
        Checks.holds("Promise 34: a table that cannot be set has no pages", () -> {
            TablePages x = Checks.sheet(3, 1, 1, 1, 1);
            x.look();
            x.setPaper(60, 1);
            Checks.due("two fewer", x.look(), 2);
            Checks.due("none, as before", x.look(), 0);
            x.setPaper(60, 3);
            Checks.due("two more", x.look(), 2);
        });
        Checks.holds("Promise 34: and so has one that was never looked at", () -> {
            Checks.due("a new object", new TablePages().look(), 1);
            Checks.due("two pages", Checks.sheet(3, 1, 1, 1, 1).look(), 2);
            Checks.due("none", Checks.sheet(1, 1, 1).look(), 0);
        });
    }

    // ---- sums

    private static void sums() {
        Checks.holds("Promise 35: Returns the sum of the figures of the body in a column", () -> {
            TablePages x = rich();
            Checks.due("column 2", x.total(2), 11845);
            Checks.due("words", x.total(0), 0);
            Checks.due("a hidden column", x.total(3), 0);
            x.hide(3);
            Checks.due("shown again", x.total(3), 900);
            TablePages y = Checks.content(1, 24);
            Checks.due("no figures", y.total(0), 0);
            for (int i = 0; i < 24; i++) Checks.figure(y, i, 0, -1000000, 0);
            Checks.due("24 least ones", y.total(0), -24000000);
            Checks.due("no rows", Checks.content(1, 0).total(0), 0);
        });
        Checks.holds("Promise 35: Throws IndexOutOfBoundsException if there is no such column", () -> {
            noSuch(4, RICH, "total(#)", TablePages::total);
            Checks.changesNothing(NONE, INDEX, "total(0)", x -> x.total(0));
        });
        Checks.holds("Promise 36: the subtotal, for a column, of the run of rows of one group that ends with a body row", () -> {
            TablePages x = Checks.content(2, 0);
            int[] groups = {1, 1, 9, 9, 1};
            for (int i = 0; i < 5; i++) {
                x.row(1, groups[i], false);
                Checks.figure(x, i, 0, 100 << i, 0);
            }
            int[] due = {0, 300, 0, 1200, 1600};
            for (int row = 0; row < 5; row++) Checks.due("row " + row, x.subtotal(row, 0), due[row]);
            for (int row = 0; row < 5; row++) Checks.due("no figures", x.subtotal(row, 1), 0);
            x.row(1, 1, false);
            Checks.due("the run goes on", x.subtotal(4, 0), 0);
            Checks.due("to the new row", x.subtotal(5, 0), 1600);
        });
        Checks.holds("Promise 36: 0 if no run of a group that is not 0 ends with it", () -> {
            TablePages x = Checks.content(1, 3);
            for (int i = 0; i < 3; i++) Checks.figure(x, i, 0, 100, 0);
            for (int i = 0; i < 3; i++) Checks.due("group 0, row " + i, x.subtotal(i, 0), 0);
        });
        Checks.holds("Promise 36: Throws IndexOutOfBoundsException if there is no such row or column", () -> {
            noSuch(6, RICH, "subtotal(#, 2)", (x, n) -> x.subtotal(n, 2));
            noSuch(4, RICH, "subtotal(1, #)", (x, n) -> x.subtotal(1, n));
            noSuch(4, RICH, "of a head, subtotal(0, #)", (x, n) -> x.subtotal(0, n));
        });
        Checks.holds("Promise 36: Throws IllegalArgumentException if it is no body row", () ->
            refusedFor(new int[] {0, 5}, RICH, ARGUMENT, "subtotal(#, 2)", (x, n) -> x.subtotal(n, 2)));
    }

    interface Carried {
        int of(TablePages x, int page, int column);
    }

    private static void carried(int promise, Carried carried) {
        String name = "Promise " + promise + ": ";
        Checks.holds(name + "what is carried out of a page for a column, totalled or not, also of the last page", () -> {
            TablePages x = sortable(1, 2, 4, 8);
            for (int i = 0; i < 4; i++) Checks.figure(x, i, 1, 10 << i, 1);
            x.setPaper(60, 3);
            Checks.due("page 0", carried.of(x, 0, 0), 700);
            Checks.due("the last", carried.of(x, 1, 0), 1500);
            Checks.due("another column", carried.of(x, 0, 1), 70);
            Checks.due("its last", carried.of(x, 1, 1), 150);
            x.hide(1);
            Checks.due("hidden", carried.of(x, 1, 1), 0);
            x.setPaper(60, 4);
            x.totalled(0);
            Checks.due("totalled, page 0", carried.of(x, 0, 0), 700);
            Checks.due("the last", carried.of(x, 1, 0), 1500);
            Checks.due("no rows", carried.of(Checks.content(1, 0), 0, 0), 0);
        });
        Checks.holds(name + "Throws IndexOutOfBoundsException if there is no such column", () -> {
            noSuch(4, RICH, "(0, #)", (x, n) -> carried.of(x, 0, n));
            noSuch(4, RICH, "(-1, #)", (x, n) -> carried.of(x, -1, n));
            noSuch(4, NO_ROOM, "(0, #) without room", (x, n) -> carried.of(x, 0, n));
        });
        Checks.holds(name + "Throws IllegalStateException if the table cannot be set", () ->
            refusedFor(new int[] {0, 1, -1, MIN, MAX}, NO_ROOM, STATE, "(#, 2)", (x, n) -> carried.of(x, n, 2)));
        Checks.holds(name + "Throws IllegalArgumentException if there is no such page", () -> {
            Checks.Make make = () -> Checks.sheet(3, 1, 1, 1, 1);
            refusedFor(outside(0, 1), make, ARGUMENT, "(#, 0) of 2 pages", (x, n) -> carried.of(x, n, 0));
            refusedFor(outside(0, 0), COLUMN, ARGUMENT, "(#, 0) of 1 page", (x, n) -> carried.of(x, n, 0));
        });
    }

    public static void main(String[] args) {
        newObject();
        column();
        row();
        cell();
        word();
        figure();
        emptyAndNote();
        at();
        paper();
        toggles();
        sort();
        widths();
        points();
        heights();
        borders();
        edge();
        changes();
        pages();
        pageOf();
        linesOn();
        shown();
        usedAndNotesOn();
        look();
        sums();
        carried(37, TablePages::carried);
        carried(38, TablePages::carriedByCells);
        Checks.end();
    }
}
